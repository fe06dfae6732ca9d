/-! the constructors: room to spare, arrays of arrays -/
section
variable {X : zX} {g : Bool} {l : Launch} {d d' bc bs mc ms : Nat} {y q : zMt} {pc pc' : Nat} {ls ls' : List (Option zV)} {st st' rest as : List zV} {μ : zM} {Q : Option zV → zM → Prop}
theorem zE_bud {bc' bs' : Nat} (h1 : bc' ≤ bc) (h2 : bs' ≤ bs) (k : zE X g l d bc' bs' y pc ls st μ Q) : zE X g l d bc bs y pc ls st μ Q := by
  intro p e R s m args below meth c H locs la cells slots hE hR hS hM hL hst
  exact k p e R s m args below meth c H locs la cells slots hE ⟨hR.1, hR.2.1, by have := hR.2.2.1; omega, by have := hR.2.2.2; omega⟩ hS hM hL hst
/-- an array of three arrays of five -/
def zmu (μ : zM) : zM := zup (zup (zup (zal (zal (zal (zal μ 18 3) 12 5) 12 5) 12 5) (μ (-1) 0) 0 (μ (-1) 0 + 1)) (μ (-1) 0) 1 (μ (-1) 0 + 2)) (μ (-1) 0) 2 (μ (-1) 0 + 3)
theorem zmu_n (h : 0 ≤ μ (-1) 0) : zmu μ (-1) 0 = μ (-1) 0 + 4 := by
  unfold zmu
  rw [zup_ne (by omega), zup_ne (by omega), zup_ne (by omega), zal_n, zal_n, zal_n, zal_n]
  omega
theorem zmu_old {k : Nat} (h : (k : Int) < μ (-1) 0) : zmu μ k = μ k ∧ zmu μ (-2) k = μ (-2) k ∧ zmu μ (-3) k = μ (-3) k := by
  unfold zmu
  have a1 := zal_old μ 18 3 h
  have a2 := zal_old (zal μ 18 3) 12 5 (k := k) (by rw [zal_n]; omega)
  have a3 := zal_old (zal (zal μ 18 3) 12 5) 12 5 (k := k) (by rw [zal_n, zal_n]; omega)
  have a4 := zal_old (zal (zal (zal μ 18 3) 12 5) 12 5) 12 5 (k := k) (by rw [zal_n, zal_n, zal_n]; omega)
  rw [zup_ne (by omega), zup_ne (by omega), zup_ne (by omega), zup_ne (by omega), zup_ne (by omega), zup_ne (by omega), zup_ne (by omega), zup_ne (by omega), zup_ne (by omega)]
  rw [a4.1, a3.1, a2.1, a1.1, a4.2.1, a3.2.1, a2.2.1, a1.2.1, a4.2.2, a3.2.2, a2.2.2, a1.2.2]
  exact ⟨rfl, rfl, rfl⟩
/-- the outer one -/
theorem zmu_out {k : Nat} (h : (k : Int) = μ (-1) 0) : (∀ i : Nat, i < 3 → zmu μ k i = k + 1 + i) ∧ zmu μ (-2) k = 18 ∧ zmu μ (-3) k = 3 := by
  unfold zmu
  have a1 := zal_new μ 18 3 h
  have a2 := zal_old (zal μ 18 3) 12 5 (k := k) (by rw [zal_n]; omega)
  have a3 := zal_old (zal (zal μ 18 3) 12 5) 12 5 (k := k) (by rw [zal_n, zal_n]; omega)
  have a4 := zal_old (zal (zal (zal μ 18 3) 12 5) 12 5) 12 5 (k := k) (by rw [zal_n, zal_n, zal_n]; omega)
  refine ⟨fun i hi => ?_, ?_, ?_⟩
  · rw [← h]
    obtain rfl | rfl | rfl : i = 0 ∨ i = 1 ∨ i = 2 := by omega
    · rw [zup_miss (by omega), zup_miss (by omega)]; exact zup_hit.trans (by omega)
    · rw [zup_miss (by omega)]; exact zup_hit.trans (by omega)
    · exact zup_hit.trans (by omega)
  · rw [zup_ne (by omega), zup_ne (by omega), zup_ne (by omega), a4.2.1, a3.2.1, a2.2.1, a1.2.1]; rfl
  · rw [zup_ne (by omega), zup_ne (by omega), zup_ne (by omega), a4.2.2, a3.2.2, a2.2.2, a1.2.2]; rfl
/-- the inner ones -/
theorem zmu_in {k : Nat} (h1 : μ (-1) 0 < (k : Int)) (h2 : (k : Int) < μ (-1) 0 + 4) (h0 : 0 ≤ μ (-1) 0) : zmu μ k = zdf 12 5 ∧ zmu μ (-2) k = 12 ∧ zmu μ (-3) k = 5 := by
  unfold zmu
  rw [zup_ne (by omega), zup_ne (by omega), zup_ne (by omega), zup_ne (by omega), zup_ne (by omega), zup_ne (by omega), zup_ne (by omega), zup_ne (by omega), zup_ne (by omega)]
  have n1 : zal μ 18 3 (-1) 0 = μ (-1) 0 + 1 := zal_n _ _ _
  have n2 : zal (zal μ 18 3) 12 5 (-1) 0 = μ (-1) 0 + 2 := by rw [zal_n, n1]; omega
  have n3 : zal (zal (zal μ 18 3) 12 5) 12 5 (-1) 0 = μ (-1) 0 + 3 := by rw [zal_n, n2]; omega
  by_cases e3 : (k : Int) = μ (-1) 0 + 3
  · exact zal_new _ 12 5 (by rw [n3]; exact e3)
  have o3 := zal_old (zal (zal (zal μ 18 3) 12 5) 12 5) 12 5 (k := k) (by rw [n3]; omega)
  rw [o3.1, o3.2.1, o3.2.2]
  by_cases e2 : (k : Int) = μ (-1) 0 + 2
  · exact zal_new _ 12 5 (by rw [n2]; exact e2)
  have o2 := zal_old (zal (zal μ 18 3) 12 5) 12 5 (k := k) (by rw [n2]; omega)
  rw [o2.1, o2.2.1, o2.2.2]
  exact zal_new _ 12 5 (by rw [n1]; omega)
theorem zmu_ext (h : 0 ≤ μ (-1) 0) : zext μ (zmu μ) := by
  refine ⟨by rw [zmu_n h]; omega, fun k h0 h1 => ?_⟩
  obtain ⟨n, rfl⟩ : ∃ n : Nat, k = (n : Int) := ⟨k.toNat, by omega⟩
  exact (zmu_old h1).2
theorem zq_out {cA : ClassId} {h0 : Nat} {f : Nat → Value} (hf : ∀ i, i < 3 → f i = .ref (h0 + 1 + i)) : zq3 cA h0 = arrV cA 3 f := by
  have e : arrV cA 3 f = arrV cA 3 (fun i => .ref (h0 + 1 + i)) := by
    unfold arrV
    congr 1
    apply congrArg
    funext j
    exact hf j.val j.isLt
  rw [e]
  rfl
theorem zE_multi {index : Nat} (hd : zI y.2.1 pc (.multianewarray index 2) 4 pc') (hcl : Cond.classLink y.1.cls index "[[I" ∈ lw_tbl) (hw : Cond.arrayClass .int ∈ lw_tbl) (k : zE X false l d bc bs y pc' ls ((20, 3, μ (-1) 0) :: st) (zmu μ) Q) : zE X false l d (4 + bc) (18 + bs) y pc ls ((0, 0, 5) :: (0, 0, 3) :: st) μ Q := by
  obtain ⟨hd, rfl⟩ := hd
  intro p e R s m args below meth c H locs la cells slots hE hR hS hM hL hst
  have hK : zKn X s := hE.2.2.2.2.2.2.2.2.1
  have hst2 := (zcons (zcons hst).2).2
  intro T hT XS
  subst hT
  obtain ⟨vm₁, cA, comp, hfA, hfC, X1, step⟩ := zq_multi XS hE.1 (own := y.1.cls) (index := index) (rest := st.map (zrv X)) hE.2.2.2.2.1 (hK.word hcl rfl rfl) hK.2.2.2.1 (hK.arr hw) (g := F0 m pc la (List.map (zrv X) ((0, 0, 5) :: (0, 0, 3) :: st))) rfl (by rw [hE.2.1]; exact hd) rfl (by have := hR.2.2.1; omega) (by have := hR.2.2.2; omega)
  obtain ⟨f1, f2, fo, fi⟩ := zqt_facts (T.setVm vm₁) cA comp
  have ehp : (T.setVm vm₁).heap = T.heap := rfl
  rw [ehp] at f1 f2 fo fi
  generalize hH1 : zqt (T.setVm vm₁) cA comp = T1 at *
  have hx := zmu_ext hM.1
  have hsz : T.heap.size = X.1 + (μ (-1) 0).toNat := hM.2.1
  have m0 : 0 ≤ μ (-1) 0 := hM.1
  obtain ⟨c0, hc0⟩ : ∃ c0 : Nat, (c0 : Int) = μ (-1) 0 := ⟨(μ (-1) 0).toNat, by omega⟩
  have hc0' : (μ (-1) 0).toNat = c0 := by omega
  have cA18 : cA = X.2.2.2.1 18 := by
    have hRA := (hK.2.1.2 18 _ (ztys_at X (by decide))).2
    exact Option.some.inj (hfA.symm.trans hRA)
  have c12 : comp = X.2.2.2.1 12 := by
    have hRA := (hK.2.1.2 12 _ (ztys_at X (by decide))).2
    exact Option.some.inj (hfC.symm.trans hRA)
  have hM1 : zR X false (zmu μ) T1.heap := by
    refine ⟨by rw [zmu_n m0]; omega, by rw [zmu_n m0, f1, hsz]; omega, fun k hk => ?_, fun q => by cases q⟩
    rw [zmu_n m0] at hk
    unfold zcell
    by_cases e1 : (k : Int) < μ (-1) 0
    · obtain ⟨e1', e2, e3⟩ := zmu_old e1
      obtain ⟨c1, c2, c3, c4, c5, c6⟩ := hM.2.2.1 k e1
      rw [e1', e2, e3]
      exact ⟨c1, c2, c3, c4, c5.kept (fo _ (by have := c5.lt; omega)), fun i hi => (c6 i hi).ext hx⟩
    by_cases e2 : (k : Int) = μ (-1) 0
    · obtain ⟨o1, o2, o3⟩ := zmu_out e2
      rw [o2, o3]
      refine ⟨by decide, by decide, by decide, by decide, ?_, fun i hi => ?_⟩
      · show zat X 18 3 (zmu μ k) k T1.heap
        unfold zat
        rw [if_neg (by decide)]
        have ek : X.1 + k = T.heap.size := by omega
        rw [ek, f2, cA18]
        refine congrArg some (zq_out (fun i hi => ?_))
        unfold zsv
        have ez : zsk 18 3 i = (112, 5) := rfl
        rw [ez, o1 i hi]
        show (if (k : Int) + 1 + i < 0 then Value.null else .ref (zad X 112 ((k : Int) + 1 + i))) = _
        rw [if_neg (by omega)]
        unfold zad
        rw [if_pos (Or.inr ⟨by decide, by decide⟩)]
        have ea : X.1 + ((k : Int) + 1 + i).toNat = T.heap.size + 1 + i := by omega
        rw [ea]
      · have hi3 : i < 3 := hi
        show zok (zmu μ) (112, 5, zmu μ k i)
        rw [o1 i hi3]
        obtain ⟨p1, p2, p3⟩ := zmu_in (μ := μ) (k := k + 1 + i) (by omega) (by omega) m0
        refine ⟨fun q => by simp at q, fun q => by simp at q, fun _ q => by simp at q, fun _ q => by simp at q, fun _ _ _ => ?_⟩
        show (k : Int) + 1 + i < zmu μ (-1) 0 ∧ zmu μ (-2) ((k : Int) + 1 + i) = ((112 - 100 : Nat) : Int) ∧ zmu μ (-3) ((k : Int) + 1 + i) = ((5 : Nat) : Int)
        rw [zmu_n m0]
        exact ⟨by omega, p2, p3⟩
    · obtain ⟨p1, p2, p3⟩ := zmu_in (μ := μ) (k := k) (by omega) (by omega) m0
      rw [p1, p2, p3]
      refine ⟨by decide, by decide, by decide, by decide, ?_, fun i hi => zdf_ok (t := 12) (L := 5)⟩
      show zat X 12 5 (zdf 12 5) k T1.heap
      unfold zat
      rw [if_neg (by decide)]
      have ek : X.1 + k = T.heap.size + 1 + (k - c0 - 1) := by omega
      rw [ek, fi (k - c0 - 1) (by omega), c12]
      rfl
  have hr : zrv X (20, 3, μ (-1) 0) = .ref T.heap.size := by
    rw [zrv_ref hM.1]
    simp only [zad]
    rw [if_pos (Or.inl (by omega)), hM.2.1]
  have fresh : zok (zmu μ) (20, 3, μ (-1) 0) := by
    obtain ⟨o1, o2, o3⟩ := zmu_out hc0
    refine ⟨fun q => by simp at q, fun q => by simp at q, fun _ _ => m0, fun _ _ => ?_, fun q => by simp at q⟩
    show μ (-1) 0 < zmu μ (-1) 0 ∧ zmu μ (-2) (μ (-1) 0) = ((20 - 2 : Nat) : Int) ∧ zmu μ (-3) (μ (-1) 0) = ((3 : Nat) : Int)
    rw [zmu_n m0, ← hc0]
    exact ⟨by omega, o2, o3⟩
  have kk := zW_ext hx <| k p e R s m args below meth c T1.heap locs la (cells + 4) (slots + 18) hE ⟨hR.1, hR.2.1, by have := hR.2.2.1; omega, by have := hR.2.2.2; omega⟩ ⟨by have := hS.1; omega, fun q q1 q2 => (fo q (Nat.lt_of_lt_of_le q1 hS.1)).trans (hS.2.1 q q1 q2), hS.2.2⟩ hM1 ⟨hL.1, hL.2.1, fun j w hj => ⟨(hL.2.2 j w hj).1, (hL.2.2 j w hj).2.ext hx⟩⟩ (zmk fresh (fun w hw => (hst2 w hw).ext hx))
  rw [List.map_cons, hr] at kk
  obtain ⟨t, a1, b1⟩ := kk T1 rfl X1
  exact ⟨t, step t a1, b1⟩
end

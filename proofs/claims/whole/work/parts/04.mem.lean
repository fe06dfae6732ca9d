theorem zup_ne {μ : zM} {a i v b : Int} (h : b ≠ a) : zup μ a i v b = μ b := by
  funext j
  simp [zup, h]
theorem zup_at {μ : zM} {a i v : Int} : zup μ a i v a = fun j => if j = i then v else μ a j := by
  funext j
  simp [zup]
theorem zok_same {μ ν : zM} (h1 : ν (-1) 0 = μ (-1) 0) (h2 : ν (-2) = μ (-2)) (h3 : ν (-3) = μ (-3)) (v : zV) : zok ν v ↔ zok μ v := by
  unfold zok
  rw [h1, h2, h3]
theorem zok_up {μ : zM} {a i v : Int} (ha : 0 ≤ a) (w : zV) : zok (zup μ a i v) w ↔ zok μ w :=
  zok_same (by rw [zup_ne (by omega)]) (zup_ne (by omega)) (zup_ne (by omega)) w
theorem zat.kept {X : zX} {t L : Nat} {f : Int → Int} {k : Nat} {H H1 : Heap} (h : zat X t L f k H) (hq : H1[X.1 + k]? = H[X.1 + k]?) : zat X t L f k H1 := by
  unfold zat at h ⊢
  split
  · rw [if_pos ‹_›] at h
    exact h.kept hq
  · rw [if_neg ‹_›] at h
    rw [hq]
    exact h
theorem zat.lt {X : zX} {t L : Nat} {f : Int → Int} {k : Nat} {H : Heap} (h : zat X t L f k H) : X.1 + k < H.size := by
  unfold zat at h
  split at h
  · obtain ⟨cell, q, -⟩ := h
    exact (Array.getElem?_eq_some_iff.mp q).1
  · exact (Array.getElem?_eq_some_iff.mp h).1
theorem zR.cell {X : zX} {g : Bool} {μ : zM} {H : Heap} (h : zR X g μ H) {t L : Nat} {a : Int} (hv : zok μ (t + 2, L, a)) (ht : t < 30) :
    ∃ k : Nat, a = (k : Int) ∧ (k : Int) < μ (-1) 0 ∧ μ (-2) k = (t : Int) ∧ μ (-3) k = (L : Int) ∧ t < 26 ∧ L < 2147483648 ∧ zat X t L (μ k) k H ∧ ∀ i : Nat, i < zsn t L → zok μ ((zsk t L i).1, (zsk t L i).2, μ k i) := by
  obtain ⟨-, -, h3, h4, -⟩ := hv
  have h0 : 0 ≤ a := h3 (by simp) (by show t + 2 < 100; omega)
  obtain ⟨q1, q2, q3⟩ := h4 (by simp) (by show t + 2 < 32; omega)
  simp only [Nat.add_sub_cancel] at q2
  obtain ⟨k, rfl⟩ : ∃ k : Nat, a = (k : Int) := ⟨a.toNat, by omega⟩
  simp only at q1 q2 q3
  obtain ⟨c1, c2, c3, c4, c5, c6⟩ := h.2.2.1 k q1
  rw [q2] at c2 c5 c6
  rw [q3] at c4 c5 c6
  simp only [Int.toNat_natCast] at c5 c6
  exact ⟨k, rfl, q1, q2, q3, by omega, by omega, c5, c6⟩
theorem zR.store {X : zX} {g : Bool} {μ : zM} {H H1 : Heap} (h : zR X g μ H) {t L k i : Nat} {v : Int} (hk : (k : Int) < μ (-1) 0) (ht : μ (-2) k = (t : Int)) (hL : μ (-3) k = (L : Int)) (hi : i < zsn t L) (hv : zok μ ((zsk t L i).1, (zsk t L i).2, v))
    (hg : g = true → zof t i = none ∧ zst t = none) (hz : H1.size = H.size) (ho : ∀ q, q ≠ X.1 + k → H1[q]? = H[q]?) (ha : zat X t L (fun j => if j = (i : Int) then v else μ k j) k H1) : zR X g (zup μ k i v) H1 := by
  obtain ⟨h1, h2, h3, h4⟩ := h
  have e1 : zup μ k i v (-1) = μ (-1) := zup_ne (by omega)
  have e2 : zup μ k i v (-2) = μ (-2) := zup_ne (by omega)
  have e3 : zup μ k i v (-3) = μ (-3) := zup_ne (by omega)
  refine ⟨by rw [e1]; exact h1, by rw [e1, hz]; exact h2, fun k' hk' => ?_, fun hg' => ?_⟩
  · rw [e1] at hk'
    obtain ⟨c1, c2, c3, c4, c5, c6⟩ := h3 k' hk'
    unfold zcell
    rw [e2, e3]
    refine ⟨c1, c2, c3, c4, ?_, ?_⟩
    · by_cases e : k' = k
      · subst e
        rw [ht, hL, zup_at]
        simpa using ha
      · rw [zup_ne (by omega)]
        exact c5.kept (ho _ (by omega))
    · intro j hj
      rw [zok_up (by omega)]
      by_cases e : k' = k
      · subst e
        rw [ht, hL] at hj c6 ⊢
        simp only [Int.toNat_natCast] at hj c6 ⊢
        rw [zup_at]
        by_cases ej : j = i
        · subst ej
          simpa using hv
        · have : ¬ (j : Int) = (i : Int) := by omega
          simp only [if_neg this]
          exact c6 j hj
      · rw [zup_ne (by omega)]
        exact c6 j hj
  · intro k' hk'
    rw [e1] at hk'
    obtain ⟨r1, r2⟩ := h4 hg' k' hk'
    rw [e2, e3]
    by_cases e : k' = k
    · subst e
      obtain ⟨g1, g2⟩ := hg hg'
      rw [ht] at r1 r2 ⊢
      simp only [Int.toNat_natCast] at r1 r2 ⊢
      refine ⟨fun j o hj => ?_, fun o s hs => ?_⟩
      · rw [zup_at]
        have : j ≠ i := fun e => by rw [e, g1] at hj; cases hj
        have : ¬ (j : Int) = (i : Int) := by omega
        simp only [if_neg this]
        exact r1 j o hj
      · rw [g2] at hs
        cases hs
    · rw [zup_ne (by omega)]
      exact ⟨r1, r2⟩
theorem zw_of {x : Int} (h1 : -2147483648 ≤ x) (h2 : x < 2147483648) : zw x = x := Int32.toInt_ofInt_of_le (by omega) (by omega)
theorem zwl_of {x : Int} (h1 : -9223372036854775808 ≤ x) (h2 : x < 9223372036854775808) : zwl x = x := Int64.toInt_ofInt_of_le (by omega) (by omega)
theorem zi_of {x : Int} (h1 : -2147483648 ≤ x) (h2 : x < 2147483648) : (Int32.ofInt x).toInt = x := zw_of h1 h2
theorem zw_i (x : Int) : Int32.ofInt (zw x) = Int32.ofInt x := Int32.ofInt_toInt _
theorem zwl_i (x : Int) : Int64.ofInt (zwl x) = Int64.ofInt x := Int64.ofInt_toInt _
theorem zi_rng (x : Int32) : -2147483648 ≤ x.toInt ∧ x.toInt < 2147483648 := ⟨by have := Int32.le_toInt x; omega, by have := Int32.toInt_lt x; omega⟩
theorem zl_rng (x : Int64) : -9223372036854775808 ≤ x.toInt ∧ x.toInt < 9223372036854775808 := ⟨by have := Int64.le_toInt x; omega, by have := Int64.toInt_lt x; omega⟩
theorem zok_i {μ : zM} {L : Nat} {x : Int} (h1 : -2147483648 ≤ x) (h2 : x < 2147483648) : zok μ (0, L, x) := by
  refine ⟨fun _ => ⟨h1, h2⟩, fun h => ?_, fun h => ?_, fun h => ?_, fun h => ?_⟩ <;> simp at h
theorem zok_l {μ : zM} {L : Nat} {x : Int} (h1 : -9223372036854775808 ≤ x) (h2 : x < 9223372036854775808) : zok μ (1, L, x) := by
  refine ⟨fun h => ?_, fun _ => ⟨h1, h2⟩, fun h => ?_, fun h => ?_, fun h => ?_⟩ <;> simp at h
theorem zok_i' {μ : zM} {L : Nat} (x : Int32) : zok μ (0, L, x.toInt) := zok_i (zi_rng x).1 (zi_rng x).2
theorem zok_l' {μ : zM} {L : Nat} (x : Int64) : zok μ (1, L, x.toInt) := zok_l (zl_rng x).1 (zl_rng x).2
theorem zok_ir {μ : zM} {L : Nat} {x : Int} (h : zok μ (0, L, x)) : -2147483648 ≤ x ∧ x < 2147483648 := h.1 rfl
theorem zok_lr {μ : zM} {L : Nat} {x : Int} (h : zok μ (1, L, x)) : -9223372036854775808 ≤ x ∧ x < 9223372036854775808 := h.2.1 rfl
theorem z_lt {a b : Int} (ha : -2147483648 ≤ a ∧ a < 2147483648) (hb : -2147483648 ≤ b ∧ b < 2147483648) : Int32.ofInt a < Int32.ofInt b ↔ a < b := by
  rw [Int32.lt_iff_toInt_lt, zi_of ha.1 ha.2, zi_of hb.1 hb.2]
theorem z_le {a b : Int} (ha : -2147483648 ≤ a ∧ a < 2147483648) (hb : -2147483648 ≤ b ∧ b < 2147483648) : Int32.ofInt a ≤ Int32.ofInt b ↔ a ≤ b := by
  rw [Int32.le_iff_toInt_le, zi_of ha.1 ha.2, zi_of hb.1 hb.2]
theorem z_eq {a b : Int} (ha : -2147483648 ≤ a ∧ a < 2147483648) (hb : -2147483648 ≤ b ∧ b < 2147483648) : Int32.ofInt a = Int32.ofInt b ↔ a = b := by
  rw [← Int32.toInt_inj, zi_of ha.1 ha.2, zi_of hb.1 hb.2]
theorem zl_lt {a b : Int} (ha : -9223372036854775808 ≤ a ∧ a < 9223372036854775808) (hb : -9223372036854775808 ≤ b ∧ b < 9223372036854775808) : Int64.ofInt a < Int64.ofInt b ↔ a < b := by
  rw [Int64.lt_iff_toInt_lt, show (Int64.ofInt a).toInt = a from zwl_of ha.1 ha.2, show (Int64.ofInt b).toInt = b from zwl_of hb.1 hb.2]
theorem zl_eq {a b : Int} (ha : -9223372036854775808 ≤ a ∧ a < 9223372036854775808) (hb : -9223372036854775808 ≤ b ∧ b < 9223372036854775808) : Int64.ofInt a = Int64.ofInt b ↔ a = b := by
  rw [← Int64.toInt_inj, show (Int64.ofInt a).toInt = a from zwl_of ha.1 ha.2, show (Int64.ofInt b).toInt = b from zwl_of hb.1 hb.2]
theorem z_0 : (0 : Int32) = Int32.ofInt 0 := rfl
theorem z_in {i : Int} {L : Nat} (h0 : 0 ≤ i) (h1 : i < L) (hL : L < 2147483648) : ¬ (Int32.ofInt i < 0 ∨ L ≤ (Int32.ofInt i).toNatClampNeg) ∧ (Int32.ofInt i).toNatClampNeg = i.toNat := by
  have e : (Int32.ofInt i).toInt = i := zi_of (by omega) (by omega)
  have e2 : (Int32.ofInt i).toNatClampNeg = i.toNat := by
    show (Int32.ofInt i).toInt.toNat = _
    rw [e]
  refine ⟨?_, e2⟩
  rw [e2, z_0, z_lt ⟨by omega, by omega⟩ ⟨by omega, by omega⟩]
  omega
theorem zext.rfl {μ : zM} : zext μ μ := ⟨Int.le_refl _, fun _ _ _ => ⟨Eq.refl _, Eq.refl _⟩⟩
theorem zext.trans {μ ν ρ : zM} (h1 : zext μ ν) (h2 : zext ν ρ) : zext μ ρ := ⟨Int.le_trans h1.1 h2.1, fun k q1 q2 => by
  obtain ⟨a1, a2⟩ := h1.2 k q1 q2
  obtain ⟨b1, b2⟩ := h2.2 k q1 (Int.lt_of_lt_of_le q2 h1.1)
  exact ⟨b1.trans a1, b2.trans a2⟩⟩
theorem zext_up {μ : zM} {a i v : Int} (h : 0 ≤ a) : zext μ (zup μ a i v) := by
  unfold zext
  rw [zup_ne (show (-1 : Int) ≠ a by omega), zup_ne (show (-2 : Int) ≠ a by omega), zup_ne (show (-3 : Int) ≠ a by omega)]
  exact zext.rfl
theorem zok.ext {μ ν : zM} (h : zext μ ν) {v : zV} (hv : zok μ v) : zok ν v := by
  obtain ⟨h1, h2, h3, h4, h5⟩ := hv
  refine ⟨h1, h2, h3, fun a b => ?_, fun a b c => ?_⟩
  · obtain ⟨q1, q2, q3⟩ := h4 a b
    obtain ⟨e1, e2⟩ := h.2 v.2.2 (h3 a (by omega)) q1
    exact ⟨Int.lt_of_lt_of_le q1 h.1, e1.trans q2, e2.trans q3⟩
  · obtain ⟨q1, q2, q3⟩ := h5 a b c
    obtain ⟨e1, e2⟩ := h.2 v.2.2 c q1
    exact ⟨Int.lt_of_lt_of_le q1 h.1, e1.trans q2, e2.trans q3⟩
theorem zW_mono {p : Program} {l : Launch} {e : Env} {R : Room} {s : State} {m : MethodId} {args : Array Value} {below : List Frame} {meth : Method} {c : Code} {H : Heap} {locs : List Loc} {cells slots : Nat} {Z Z' : State → Prop} {f : JFrame} (h : ∀ t, Z t → Z' t) (k : W p l e R s m args below meth c H locs cells slots Z f) : W p l e R s m args below meth c H locs cells slots Z' f := fun T hT X => by
  obtain ⟨t, a, b⟩ := k T hT X
  exact ⟨t, a, h t b⟩
theorem zQ_ext {X : zX} {g : Bool} {μ ν : zM} {Q : Option zV → zM → Prop} {args : Array Value} {st : State} {oc : Outcome} {t : State} (h : zext μ ν) (k : zQ X g ν Q args st oc t) : zQ X g μ Q args st oc t := by
  obtain ⟨⟨r, ρ, k1, k2, k3, k4, k5⟩, k6⟩ := k
  exact ⟨⟨r, ρ, k1, k2, k3, k4, h.trans k5⟩, k6⟩
theorem zW_ext {X : zX} {g : Bool} {μ ν : zM} {Q : Option zV → zM → Prop} {p : Program} {l : Launch} {e : Env} {R : Room} {s : State} {m : MethodId} {args : Array Value} {below : List Frame} {meth : Method} {c : Code} {H : Heap} {locs : List Loc} {cells slots mc ms : Nat} {f : JFrame} (h : zext μ ν) (k : W p l e R s m args below meth c H locs cells slots (MQ below (zQ X g ν Q) args s mc ms (zA X)) f) : W p l e R s m args below meth c H locs cells slots (MQ below (zQ X g μ Q) args s mc ms (zA X)) f :=
  zW_mono (fun t ⟨o, q1, q2, q3, q4⟩ => ⟨o, q1, q2, zQ_ext h q3, q4⟩) k

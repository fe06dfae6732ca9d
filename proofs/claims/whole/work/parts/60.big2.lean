/-! what Big does, on -/
theorem ztens_pow : ∀ n : Nat, n < 9 → ztens n = 10 ^ n := by decide
theorem zten_split (p : Nat) : (10 : Int) ^ p = 10 ^ (p % 9) * zpw (p / 9) := by
  unfold zpw
  have e : (1000000000 : Int) = 10 ^ 9 := by decide
  rw [e, ← Int.pow_mul, ← Int.pow_add]
  congr 1
  omega
theorem zten_pos (p : Nat) : (0 : Int) < 10 ^ p := Int.pow_pos (by decide)
theorem znum_one {f : Int → Int} {L k : Nat} (hk : k < L) (h : ∀ i : Int, 0 ≤ i → i < L → i ≠ k → f i = 0) : znum f L = f k * zpw k := by
  rw [znum_zeros (m := k + 1) L (by omega) (fun i a b => h i (by omega) b (by omega))]
  simp only [znum]
  rw [znum_zeros (m := 0) k (by omega) (fun i a b => h i (by omega) (by omega) (by omega))]
  simp [znum]
section
variable {X : zX} {l : Launch} {d : Nat} {μ : zM} {a a1 a2 v v1 v2 : Int} {L : Nat} {Q : zM → Prop}
theorem k_setTen {p : Nat} (hd : 1 ≤ d) (hL : L < 1000) (h : zBig μ a L) (hp : p / 9 < L) (hQ : ∀ ν, (∀ b : Int, b ≠ a → b ≠ a + 1 → ν b = μ b) → zBv ν a L (10 ^ p) → Q ν) : zCv X true l d 0 0 y_Big_setTen [(2, L, a), (0, 0, (p : Int))] μ Q := by
  refine c_Big_setTen (d1 := 0) (by omega) (k_setZero hL h fun ν n1 n2 n3 n4 => ?_)
  have e0 := n2.1.1
  have q1 : zdivi p 9 = ((p / 9 : Nat) : Int) := by rw [zdivi_of (by omega) (by omega) (by decide) (by decide)]; omega
  have q2 : zremi p 9 = ((p % 9 : Nat) : Int) := by rw [zremi_of (by omega) (by omega) (by decide) (by decide)]; omega
  have t0 := ztens_pow (p % 9) (by omega)
  have t1 : 0 < ztens (p % 9) ∧ ztens (p % 9) < 1000000000 := by
    have : ∀ n : Nat, n < 9 → 0 < ztens n ∧ ztens n < 1000000000 := by decide
    exact this _ (by omega)
  rw [q1, q2, Int.toNat_natCast, zw_of (by omega) (by omega)]
  refine ⟨fun c => absurd c (by omega), fun _ => ⟨fun c => absurd c (by omega), fun _ => ⟨by omega, by omega, hQ _ (fun b b0 b1 => by rw [zup_ne b0, zup_ne b1]; exact n1 b b0 b1) ⟨⟨?_, ?_, ?_, fun j j0 j1 => ?_, fun c => ?_⟩, ?_⟩⟩⟩⟩
  · rw [zup_miss (by omega), zup_ne (by omega)]; exact e0
  · rw [zup_hit]; omega
  · rw [zup_hit]; omega
  · rw [zup_ne (by omega), zup_val, zup_hit]
    split
    · exact ⟨by omega, by omega, fun _ => by omega⟩
    · rw [n3 j j0 j1]; exact ⟨by omega, by omega, fun _ => rfl⟩
  · rw [zup_hit, zup_ne (by omega), zup_val, if_pos (by omega)]
    omega
  · rw [zup_ne (by omega), znum_one (k := p / 9) hp (fun j j0 j1 j2 => (zup_miss (by omega)).trans (n3 j j0 j1)), zup_hit, t0, ← zten_split]
theorem k_setBig (hd : 1 ≤ d) (hL : L < 1000) (h : zBig μ a L) (h1 : zBv μ a1 L v) (hab : a + 2 ≤ a1 ∨ a1 + 2 ≤ a) (hQ : ∀ ν, (∀ b : Int, b ≠ a → b ≠ a + 1 → ν b = μ b) → zBv ν a L v → Q ν) : zCv X true l d 0 0 y_Big_setBig [(2, L, a), (2, L, a1)] μ Q := by
  refine c_Big_setBig (d1 := 0) (by omega) (k_setZero hL h fun ν n1 n2 n3 n4 => ?_)
  obtain ⟨⟨g0, g1, g2, g3, g4⟩, g5⟩ := id h1
  obtain ⟨u, hu⟩ : ∃ u : Nat, μ a1 2 = u := ⟨(μ a1 2).toNat, by omega⟩
  have loop : ∀ m i : Nat, i + m = u → ∀ ν' : zM, (∀ b : Int, b ≠ a + 1 → ν' b = ν b) → (∀ j : Int, 0 ≤ j → j < L → ν' (a + 1) j = if j < i then μ (a1 + 1) j else 0) → zE X true l d 0 0 y_Big_setBig 6 [some (2, L, a), some (2, L, a1), some (0, 0, (i : Int))] [] ν' (zrn Q) := by
    intro m
    induction m with
    | zero =>
      intro i hi ν' m1 m2
      obtain rfl : i = u := by omega
      have e1 : ν' a1 = μ a1 := by rw [m1 _ (by omega), n1 _ (by omega) (by omega)]
      have e2 : ν' a = ν a := m1 a (by omega)
      have e3 := n2.1.1
      have e4 : ∀ j : Int, 0 ≤ j → j < L → ν' (a + 1) j = μ (a1 + 1) j := fun j j0 j1 => by
        rw [m2 j j0 j1]
        split
        · rfl
        · exact ((g3 j j0 j1).2.2 (by omega)).symm
      refine s_Big_setBig_6 (by omega) ⟨fun _ => ?_, fun c => absurd (by rw [e1]; omega) c⟩
      have e5 : (if ν' a1 2 < ν' a 0 then ν' a1 2 else ν' a 0) = i := by rw [e1, e2, e3, hu]; split <;> omega
      rw [e5]
      refine hQ _ (fun b b0 b1 => by rw [zup_ne b0, m1 b b1]; exact n1 b b0 b1) ⟨⟨?_, ?_, ?_, fun j j0 j1 => ?_, fun c => ?_⟩, ?_⟩
      · rw [zup_miss (by omega), e2]; exact e3
      · rw [zup_hit]; omega
      · rw [zup_hit]; omega
      · rw [zup_hit, zup_ne (by omega), e4 j j0 j1]
        exact ⟨(g3 j j0 j1).1, (g3 j j0 j1).2.1, fun q => (g3 j j0 j1).2.2 (by omega)⟩
      · rw [zup_hit] at c ⊢
        rw [zup_ne (by omega), e4 _ (by omega) (by omega), ← hu]
        exact g4 (by omega)
      · rw [zup_ne (by omega), znum_congr L e4]
        exact g5
    | succ m ih =>
      intro i hi ν' m1 m2
      have e1 : ν' a1 = μ a1 := by rw [m1 _ (by omega), n1 _ (by omega) (by omega)]
      have e2 : ν' a = ν a := m1 a (by omega)
      have e3 := n2.1.1
      have e6 : ν' (a1 + 1) = μ (a1 + 1) := by rw [m1 _ (by omega), n1 _ (by omega) (by omega)]
      refine s_Big_setBig_6 (by omega) ⟨fun c => absurd c (by rw [e1]; omega), fun _ => ⟨fun c => absurd c (by rw [e1]; omega), fun _ => ⟨fun c => absurd c (by rw [e2]; omega), fun _ => ⟨by omega, by omega, ?_⟩⟩⟩⟩
      rw [zw_of (by omega) (by omega), e6]
      refine ih (i + 1) (by omega) _ (fun b hb => (zup_ne hb).trans (m1 b hb)) (fun j j0 j1 => ?_)
      rw [zup_val]
      by_cases c : j = i
      · rw [if_pos c, if_pos (by omega), c]
      · rw [if_neg c, m2 j j0 j1]
        by_cases c2 : j < i
        · rw [if_pos c2, if_pos (by omega)]
        · rw [if_neg c2, if_neg (by omega)]
  exact loop u 0 (by omega) ν (fun _ _ => rfl) (fun j j0 j1 => by rw [if_neg (by omega)]; exact n3 j j0 j1)
theorem k_limbAt {i : Int} {Q : Int → zM → Prop} (h : zBig μ a L) (i0 : 0 ≤ i) (hQ : Q (if i < L then μ (a + 1) i else 0) μ) : zCi X true l d 0 0 y_Big_limbAt [(2, L, a), (0, 0, i)] μ Q := by
  obtain ⟨h0, h1, h2, h3, h4⟩ := h
  refine c_Big_limbAt ⟨fun c => absurd c (by omega), fun _ => ⟨fun c => ?_, fun c => ⟨fun c2 => absurd c2 (by omega), fun c2 => ⟨by omega, ?_⟩⟩⟩⟩
  · by_cases e : i < L
    · rw [if_pos e, (h3 i i0 e).2.2 c] at hQ
      exact hQ
    · rw [if_neg e] at hQ
      exact hQ
  · rw [if_pos (by omega)] at hQ
    exact hQ
theorem k_setDifference (hd : 2 ≤ d) (hL : L < 1000) (h : zBig μ a L) (h1 : zBv μ a1 L v1) (h2 : zBv μ a2 L v2) (hab : a + 2 ≤ a1 ∨ a1 + 2 ≤ a) (hac : a + 2 ≤ a2 ∨ a2 + 2 ≤ a) (hle : v2 ≤ v1) (hQ : ∀ ν, (∀ b : Int, b ≠ a → b ≠ a + 1 → ν b = μ b) → zBv ν a L (v1 - v2) → Q ν) : zCv X true l d 0 0 y_Big_setDifference [(2, L, a), (2, L, a1), (2, L, a2)] μ Q := by
  refine c_Big_setDifference (d1 := 1) (by omega) (k_setZero hL h fun ν n1 n2 n3 n4 => ?_)
  obtain ⟨⟨g0, g1, g2, g3, g4⟩, g5⟩ := id h1
  obtain ⟨u, hu⟩ : ∃ u : Nat, μ a1 2 = u := ⟨(μ a1 2).toNat, by omega⟩
  have hU := h1.used hu
  have d1 := h1.1.dig
  have d2 := h2.1.dig
  have hv1 := znum_bd u (f := μ (a1 + 1)) (fun i a b => d1 i a (by omega))
  have hz2 : ∀ j : Int, u ≤ j → j < L → μ (a2 + 1) j = 0 := fun j j0 j1 => by
    obtain ⟨k, rfl⟩ : ∃ k : Nat, j = k := ⟨j.toNat, by omega⟩
    refine Decidable.byContradiction fun c => ?_
    have t1 := znum_top (u := k) d2 (by omega) c
    have t2 := zpw_mono (m := u) (n := k) (by omega)
    have t3 := h2.2
    omega
  have hV2 : znum (μ (a2 + 1)) u = v2 := by rw [← h2.2]; exact (znum_zeros L (by omega) hz2).symm
  have loop : ∀ m i : Nat, i + m = u → ∀ (ν' : zM) (c : Int), (∀ b : Int, b ≠ a + 1 → ν' b = ν b) → (∀ j : Int, i ≤ j → j < L → ν' (a + 1) j = 0) → zdig (ν' (a + 1)) L → (c = 0 ∨ c = 1) → znum (ν' (a + 1)) i = znum (μ (a1 + 1)) i - znum (μ (a2 + 1)) i + c * zpw i → zE X true l d 0 0 y_Big_setDifference 9 [some (2, L, a), some (2, L, a1), some (2, L, a2), some (0, 0, c), some (0, 0, (i : Int)), none] [] ν' (zrn Q) := by
    intro m
    induction m with
    | zero =>
      intro i hi ν' c m1 m2 m3 hc he
      obtain rfl : i = u := by omega
      have e1 : ν' a1 = μ a1 := by rw [m1 _ (by omega), n1 _ (by omega) (by omega)]
      have e2 : ν' a = ν a := m1 a (by omega)
      have e3 := n2.1.1
      rw [hU, hV2] at he
      have hb := znum_bd i (f := ν' (a + 1)) (fun j a b => m3 j a (by omega))
      have cz : c = 0 := by
        rcases hc with hc | hc
        · exact hc
        · rw [hc, Int.one_mul] at he
          omega
      rw [cz, Int.zero_mul, Int.add_zero] at he
      refine s_Big_setDifference_9 (d1 := 1) (by omega) ⟨fun _ => ?_, fun c => absurd (by rw [e1]; omega) c⟩
      rw [e1, hu]
      refine k_settleUsed (by omega) hL (by rw [e2]; exact e3) m3 (by omega) (fun j j0 j1 => m2 j j0 j1) (fun ν'' q1 q2 => hQ ν'' (fun b b0 b1 => by rw [q1 b b0, m1 b b1, n1 b b0 b1]) ⟨q2, ?_⟩)
      rw [q1 _ (by omega), znum_zeros (m := i) L (by omega) (fun j j0 j1 => m2 j j0 j1)]
      exact he
    | succ m ih =>
      intro i hi ν' c m1 m2 m3 hc he
      have e1 : ν' a1 = μ a1 := by rw [m1 _ (by omega), n1 _ (by omega) (by omega)]
      have e1' : ν' (a1 + 1) = μ (a1 + 1) := by rw [m1 _ (by omega), n1 _ (by omega) (by omega)]
      have e2 : ν' a = ν a := m1 a (by omega)
      have e3 := n2.1.1
      have e4 : ν' a2 = μ a2 := by rw [m1 _ (by omega), n1 _ (by omega) (by omega)]
      have e4' : ν' (a2 + 1) = μ (a2 + 1) := by rw [m1 _ (by omega), n1 _ (by omega) (by omega)]
      have f1 := d1 i (by omega) (by omega)
      have f2 := d2 i (by omega) (by omega)
      refine s_Big_setDifference_9 (d1 := 1) (by omega) ⟨fun c => absurd c (by rw [e1]; omega), fun _ => ⟨fun c => absurd c (by rw [e1]; omega), fun _ => ⟨fun c => absurd c (by rw [e2]; omega), fun _ => ⟨by omega, k_limbAt (h2.1.keep e4 e4') (by omega) ⟨by omega, ?_⟩⟩⟩⟩⟩
      have eif : (if (i : Int) < L then ν' (a2 + 1) i else 0) = ν' (a2 + 1) i := if_pos (by omega)
      rw [eif, e1', e4', zw_of (x := μ (a1 + 1) i - c) (by omega) (by omega), zw_of (x := μ (a1 + 1) i - c - μ (a2 + 1) i) (by omega) (by omega), zw_of (x := (i : Int) + 1) (by omega) (by omega), zw_of (by omega) (by omega)]
      by_cases s : 0 ≤ μ (a1 + 1) i - c - μ (a2 + 1) i
      · rw [if_pos s, if_pos s]
        refine ih (i + 1) (by omega) _ _ (fun b hb => (zup_ne hb).trans (m1 b hb)) (fun j j0 j1 => (zup_miss (by omega)).trans (m2 j (by omega) j1)) (fun j j0 j1 => ?_) (Or.inl rfl) ?_
        · rw [zup_val]
          split
          · omega
          · exact m3 j j0 j1
        · rw [znum_up, he]
          simp only [znum]
          grind
      · rw [if_neg s, if_neg s]
        refine ih (i + 1) (by omega) _ _ (fun b hb => (zup_ne hb).trans (m1 b hb)) (fun j j0 j1 => (zup_miss (by omega)).trans (m2 j (by omega) j1)) (fun j j0 j1 => ?_) (Or.inr rfl) ?_
        · rw [zup_val]
          split
          · omega
          · exact m3 j j0 j1
        · rw [znum_up, he, zpw_succ]
          simp only [znum]
          grind
  exact loop u 0 (by omega) ν 0 (fun _ _ => rfl) (fun j j0 j1 => n3 j (by omega) j1) n2.1.dig (Or.inl rfl) (by simp [znum])
end

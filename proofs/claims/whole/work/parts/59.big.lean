/-! what Big does -/
def zBv (μ : zM) (a : Int) (L : Nat) (v : Int) : Prop := zBig μ a L ∧ znum (μ (a + 1)) L = v
theorem zwl_id {x : Int} (h1 : -9223372036854775808 ≤ x) (h2 : x < 9223372036854775808) : zwl x = x := Int64.toInt_ofInt_of_le (by omega) (by omega)
theorem zBig.dig {μ : zM} {a : Int} {L : Nat} (h : zBig μ a L) : zdig (μ (a + 1)) L := fun i h0 h1 => ⟨(h.2.2.2.1 i h0 h1).1, (h.2.2.2.1 i h0 h1).2.1⟩
theorem zBv.keep {μ ν : zM} {a v : Int} {L : Nat} (h : zBv μ a L v) (h1 : ν a = μ a) (h2 : ν (a + 1) = μ (a + 1)) : zBv ν a L v := ⟨h.1.keep h1 h2, by rw [h2]; exact h.2⟩
theorem zBv.bd {μ : zM} {a v : Int} {L : Nat} (h : zBv μ a L v) : 0 ≤ v ∧ v < zpw L := by
  have := znum_bd L h.1.dig
  rw [h.2] at this
  exact this
/-- the limbs below used hold it all -/
theorem zBv.used {μ : zM} {a v : Int} {L u : Nat} (h : zBv μ a L v) (hu : μ a 2 = u) : znum (μ (a + 1)) u = v := by
  have h2 := h.1.2.2.1
  rw [← h.2, znum_zeros (m := u) L (by omega) (fun i a b => (h.1.2.2.2.1 i (by omega) b).2.2 (by omega))]
/-- one step of a sum with a carry -/
theorem zcarry {N c p F t r c' : Int} (h : N + c * p = F) (h2 : c + t = r + 1000000000 * c') : (N + r * p) + c' * (1000000000 * p) = F + t * p := by grind
theorem znum_up {ν : zM} {a r : Int} {i : Nat} : znum (zup ν a i r a) (i + 1) = znum (ν a) i + r * zpw i := by
  simp only [znum]
  rw [zup_hit, znum_congr (g := ν a) i (fun j a b => zup_miss (by omega))]
section
variable {X : zX} {l : Launch} {d : Nat} {μ : zM} {a v : Int} {L : Nat} {Q : zM → Prop}
theorem k_settleUsed {x : Int} (hd : 1 ≤ d) (hL : L < 1000) (h0 : μ a 0 = L) (hg : zdig (μ (a + 1)) L) (hx : 0 ≤ x) (hz : ∀ i : Int, x ≤ i → i < L → μ (a + 1) i = 0) (hQ : ∀ ν, (∀ b : Int, b ≠ a → ν b = μ b) → zBig ν a L → Q ν) : zCv X true l d 0 0 y_Big_settleUsed [(2, L, a), (0, 0, x)] μ Q := by
  have loop : ∀ n : Nat, n ≤ L → (∀ i : Int, n ≤ i → i < L → μ (a + 1) i = 0) → ∀ ν : zM, (∀ b : Int, b ≠ a → ν b = μ b) → ν a 0 = L → ν a 2 = n → zE X true l d 0 0 y_Big_settleUsed 16 [some (2, L, a), none] [] ν (zrn Q) := by
    intro n
    induction n with
    | zero =>
      intro hn hzz ν n1 n2 n3
      have e1 : ν (a + 1) = μ (a + 1) := n1 _ (by omega)
      refine s_Big_settleUsed_16 ⟨fun _ => hQ ν n1 ⟨n2, by omega, by omega, fun i i0 i1 => ?_, fun c => absurd c (by omega)⟩, fun c => absurd (by omega) c⟩
      rw [e1]
      exact ⟨(hg i i0 i1).1, (hg i i0 i1).2, fun _ => hzz i i0 i1⟩
    | succ n ih =>
      intro hn hzz ν n1 n2 n3
      have e1 : ν (a + 1) = μ (a + 1) := n1 _ (by omega)
      have e2 : zw (ν a 2 - 1) = n := by rw [zw_of (by omega) (by omega)]; omega
      refine s_Big_settleUsed_16 ⟨fun c => absurd c (by omega), fun _ => ?_⟩
      rw [e2, e1]
      refine ⟨by omega, fun c => hQ ν n1 ⟨n2, by omega, by omega, fun i i0 i1 => ?_, fun _ => ?_⟩, fun c => ?_⟩
      · rw [e1]
        exact ⟨(hg i i0 i1).1, (hg i i0 i1).2, fun q => hzz i (by omega) i1⟩
      · rw [e1, n3, show ((n + 1 : Nat) : Int) - 1 = n by omega]
        exact c
      · refine ih (by omega) (fun i i0 i1 => ?_) _ (fun b hb => (zup_ne hb).trans (n1 b hb)) ((zup_miss (by omega)).trans n2) zup_hit
        by_cases e : i = n
        · rw [e]; exact c
        · exact hzz i (by omega) i1
  refine c_Big_settleUsed hd ?_
  rw [h0]
  by_cases c : x < L
  · rw [if_pos c]
    have e : (if 0 < x then x else 0) = ((x.toNat : Nat) : Int) := by split <;> omega
    rw [e]
    exact loop x.toNat (by omega) (fun i i0 i1 => hz i (by omega) i1) _ (fun b hb => zup_ne hb) ((zup_miss (by omega)).trans h0) zup_hit
  · rw [if_neg c]
    have e : (if 0 < (L : Int) then (L : Int) else 0) = ((L : Nat) : Int) := by split <;> omega
    rw [e]
    exact loop L (by omega) (fun i i0 i1 => by omega) _ (fun b hb => zup_ne hb) ((zup_miss (by omega)).trans h0) zup_hit
theorem k_setZero (hL : L < 1000) (h : zBig μ a L) (hQ : ∀ ν, (∀ b : Int, b ≠ a → b ≠ a + 1 → ν b = μ b) → zBv ν a L 0 → (∀ i : Int, 0 ≤ i → i < L → ν (a + 1) i = 0) → ν a 2 = 0 → Q ν) : zCv X true l d 0 0 y_Big_setZero [(2, L, a)] μ Q := by
  obtain ⟨h0, h1, h2, h3, h4⟩ := h
  obtain ⟨u, hu⟩ : ∃ u : Nat, μ a 2 = u := ⟨(μ a 2).toNat, by omega⟩
  have loop : ∀ m i : Nat, i + m = u → ∀ ν : zM, (∀ b : Int, b ≠ a + 1 → ν b = μ b) → (∀ j : Int, ν (a + 1) j = if 0 ≤ j ∧ j < i then 0 else μ (a + 1) j) → zE X true l d 0 0 y_Big_setZero 2 [some (2, L, a), some (0, 0, (i : Int))] [] ν (zrn Q) := by
    intro m
    induction m with
    | zero =>
      intro i hi ν n1 n2
      obtain rfl : i = u := by omega
      have e0 : ν a = μ a := n1 a (by omega)
      have z : ∀ j : Int, 0 ≤ j → j < L → zup ν a 2 0 (a + 1) j = 0 := fun j j0 j1 => by
        rw [zup_ne (by omega), n2]
        split
        · rfl
        · exact (h3 j j0 j1).2.2 (by omega)
      refine s_Big_setZero_2 ⟨fun _ => hQ _ (fun b b0 b1 => (zup_ne b0).trans (n1 b b1)) ⟨⟨?_, ?_, ?_, fun j j0 j1 => ?_, fun c => ?_⟩, ?_⟩ z zup_hit, fun c => absurd (by rw [e0]; omega) c⟩
      · rw [zup_miss (by omega), e0]; exact h0
      · rw [zup_hit]; omega
      · rw [zup_hit]; omega
      · rw [z j j0 j1]; exact ⟨by omega, by omega, fun _ => rfl⟩
      · rw [zup_hit] at c; omega
      · rw [znum_zeros (m := 0) L (by omega) (fun j j0 j1 => z j (by omega) j1)]; rfl
    | succ m ih =>
      intro i hi ν n1 n2
      have e0 : ν a = μ a := n1 a (by omega)
      refine s_Big_setZero_2 ⟨fun c => absurd c (by rw [e0]; omega), fun _ => ⟨fun c => absurd c (by rw [e0]; omega), fun _ => ⟨by omega, ?_⟩⟩⟩
      rw [zw_of (by omega) (by omega)]
      refine ih (i + 1) (by omega) _ (fun b hb => (zup_ne hb).trans (n1 b hb)) (fun j => ?_)
      rw [zup_val, n2]
      by_cases c : j = i
      · rw [if_pos c, if_pos (by omega)]
      · rw [if_neg c]
        by_cases c2 : 0 ≤ j ∧ j < i
        · rw [if_pos c2, if_pos (by omega)]
        · rw [if_neg c2, if_neg (by omega)]
  exact c_Big_setZero (loop u 0 (by omega) μ (fun _ _ => rfl) (fun j => by rw [if_neg (by omega)]))
theorem k_setSmall {x : Int} (hd : 1 ≤ d) (hL : L < 1000) (hL1 : 1 ≤ L) (h : zBig μ a L) (x0 : 0 ≤ x) (x1 : x < 1000000000) (hQ : ∀ ν, (∀ b : Int, b ≠ a → b ≠ a + 1 → ν b = μ b) → zBv ν a L x → Q ν) : zCv X true l d 0 0 y_Big_setSmall [(2, L, a), (0, 0, x)] μ Q := by
  refine c_Big_setSmall (d1 := 0) (by omega) (k_setZero hL h fun ν n1 n2 n3 n4 => ⟨by omega, hQ _ (fun b b0 b1 => by rw [zup_ne b0, zup_ne b1]; exact n1 b b0 b1) ⟨⟨?_, ?_, ?_, fun j j0 j1 => ?_, fun c => ?_⟩, ?_⟩⟩)
  · rw [zup_miss (by omega), zup_ne (by omega)]; exact n2.1.1
  · rw [zup_hit]; split <;> omega
  · rw [zup_hit]; split <;> omega
  · rw [zup_ne (by omega), zup_val, zup_hit]
    by_cases c : j = 0
    · rw [if_pos c]
      refine ⟨x0, x1, fun q => ?_⟩
      by_cases e : x = 0
      · exact e
      · rw [if_pos e] at q; omega
    · rw [if_neg c, n3 j j0 j1]
      exact ⟨by omega, by omega, fun _ => rfl⟩
  · rw [zup_hit] at c ⊢
    by_cases e : x = 0
    · rw [if_neg (by omega)] at c; omega
    · rw [if_pos e, zup_ne (by omega), zup_val, if_pos (by omega)]
      exact e
  · rw [zup_ne (by omega)]
    obtain ⟨m, rfl⟩ : ∃ m, L = m + 1 := ⟨L - 1, by omega⟩
    rw [znum_low, zup_hit, znum_zeros (m := 0) m (by omega) (fun j j0 j1 => by rw [zup_miss (by omega)]; exact n3 _ (by omega) (by omega))]
    simp [znum]
theorem k_timesSmall {f : Int} (hd : 2 ≤ d) (hL : L < 1000) (h : zBv μ a L v) (f0 : 0 ≤ f) (f1 : f ≤ 100000000) (hv : v * f < zpw L) (hQ : ∀ ν, (∀ b : Int, b ≠ a → b ≠ a + 1 → ν b = μ b) → zBv ν a L (v * f) → Q ν) : zCv X true l d 0 0 y_Big_timesSmall [(2, L, a), (0, 0, f)] μ Q := by
  obtain ⟨⟨h0, h1, h2, h3, h4⟩, h5⟩ := id h
  obtain ⟨u, hu⟩ : ∃ u : Nat, μ a 2 = u := ⟨(μ a 2).toNat, by omega⟩
  have hU := h.used hu
  have loop : ∀ m i : Nat, i + m = u → ∀ (ν : zM) (c : Int), (∀ b : Int, b ≠ a + 1 → ν b = μ b) → (∀ j : Int, i ≤ j → ν (a + 1) j = μ (a + 1) j) → zdig (ν (a + 1)) L → 0 ≤ c → c ≤ f → znum (ν (a + 1)) i + c * zpw i = znum (μ (a + 1)) i * f → zE X true l d 0 0 y_Big_timesSmall 5 [some (2, L, a), some (0, 0, f), some (1, 0, c), none, some (0, 0, (i : Int))] [] ν (zrn Q) := by
    intro m
    induction m with
    | zero =>
      intro i hi ν c n1 n2 n3 c0 c1 hc
      obtain rfl : i = u := by omega
      have e0 : ν a = μ a := n1 a (by omega)
      have hN : znum (ν (a + 1)) L = znum (ν (a + 1)) i := znum_zeros L (by omega) (fun j j0 j1 => by rw [n2 j j0]; exact (h3 j (by omega) j1).2.2 (by omega))
      refine s_Big_timesSmall_5 ⟨fun _ => ?_, fun c => absurd (by rw [e0]; omega) c⟩
      refine s_Big_timesSmall_62 (d1 := 1) (by omega) ⟨fun z => ?_, fun z => ⟨fun y => ?_, fun y => ?_⟩⟩
      · have cz : c = 0 := by unfold zcmp at z; split at z; · omega
                              split at z <;> omega
        subst cz
        refine k_settleUsed (by omega) hL (by rw [e0]; exact h0) n3 (by rw [e0]; omega) (fun j j0 j1 => ?_) (fun ν' m1 m2 => hQ ν' (fun b b0 b1 => (m1 b b0).trans (n1 b b1)) ⟨m2, ?_⟩)
        · rw [e0] at j0
          rw [n2 j (by omega)]
          exact (h3 j (by omega) j1).2.2 (by omega)
        · rw [m1 _ (by omega), hN]
          rw [hU] at hc
          omega
      · exfalso
        rw [e0, h0, hu] at y
        have iL : i = L := by omega
        subst iL
        have cz : c ≠ 0 := fun e => z (by rw [e]; decide)
        rw [hU] at hc
        have b1 := znum_bd i n3
        have b2 : 1 * zpw i ≤ c * zpw i := Int.mul_le_mul_of_nonneg_right (by omega) (by have := zpw_pos i; omega)
        omega
      · rw [e0, h0, hu] at y
        have e1 : zup ν (a + 1) (ν a 2) (zw c) a 2 = i := by rw [zup_ne (by omega), e0]; exact hu
        rw [e1, zw_of (x := c) (by omega) (by omega), zw_of (x := (i : Int) + 1) (by omega) (by omega), zup_hit, e0, hu]
        refine ⟨by omega, k_settleUsed (by omega) hL (by rw [zup_miss (by omega), zup_ne (by omega), e0]; exact h0) ?_ (by omega) (fun j j0 j1 => ?_) (fun ν' m1 m2 => hQ ν' (fun b b0 b1 => by rw [m1 b b0, zup_ne b0, zup_ne b1]; exact n1 b b1) ⟨m2, ?_⟩)⟩
        · intro j j0 j1
          rw [zup_ne (by omega), zup_val]
          split
          · omega
          · exact n3 j j0 j1
        · rw [zup_ne (by omega), zup_miss (by omega), n2 j (by omega)]
          exact (h3 j (by omega) j1).2.2 (by omega)
        · rw [m1 _ (by omega), zup_ne (by omega), znum_zeros (m := i + 1) L (by omega) (fun j j0 j1 => by rw [zup_miss (by omega), n2 j (by omega)]; exact (h3 j (by omega) j1).2.2 (by omega)), znum_up, hc, hU]
    | succ m ih =>
      intro i hi ν c n1 n2 n3 c0 c1 hc
      have e0 : ν a = μ a := n1 a (by omega)
      have e1 : ν (a + 1) i = μ (a + 1) i := n2 i (by omega)
      have hdg := h3 i (by omega) (by omega)
      have p0 : 0 ≤ μ (a + 1) i * f := Int.mul_nonneg hdg.1 f0
      have p1 : μ (a + 1) i * f ≤ 999999999 * f := Int.mul_le_mul_of_nonneg_right (by omega) f0
      refine s_Big_timesSmall_5 ⟨fun c => absurd c (by rw [e0]; omega), fun _ => ⟨fun c => absurd c (by rw [e0]; omega), fun _ => ⟨by omega, by omega, ?_⟩⟩⟩
      rw [e1, zwl_id (x := μ (a + 1) i * f) (by omega) (by omega), zwl_id (by omega) (by omega), zdivl_of (by omega) (by omega) (by decide) (by decide), zreml_of (by omega) (by omega) (by decide) (by decide), zw_of (x := (i : Int) + 1) (by omega) (by omega), zw_of (by omega) (by omega)]
      refine ih (i + 1) (by omega) _ _ (fun b hb => (zup_ne hb).trans (n1 b hb)) (fun j hj => (zup_miss (by omega)).trans (n2 j (by omega))) (fun j j0 j1 => ?_) (by omega) (by omega) ?_
      · rw [zup_val]
        split
        · omega
        · exact n3 j j0 j1
      · rw [znum_up, zpw_succ]
        rw [zcarry (F := znum (μ (a + 1)) i * f) (c := c) (t := μ (a + 1) i * f) hc (by omega)]
        simp only [znum]
        grind
  exact c_Big_timesSmall (loop u 0 (by omega) μ 0 (fun _ _ => rfl) (fun _ _ => rfl) h.1.dig (by omega) f0 (by simp [znum]))
end

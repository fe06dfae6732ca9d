/-! products of long numbers -/
theorem znum_s {f : Int → Int} {n : Nat} : znum f (n + 1) = znum f n + f n * zpw n := rfl
theorem znum_set {f : Int → Int} {v : Int} {k : Nat} : ∀ n : Nat, k < n → znum (fun j => if j = k then v else f j) n = znum f n + (v - f k) * zpw k
  | 0, h => by omega
  | n + 1, h => by
    simp only [znum]
    by_cases e : k = n
    · subst e
      rw [if_pos rfl, znum_congr (g := f) k (fun i a b => if_neg (by omega))]
      grind
    · rw [znum_set n (by omega), if_neg (by omega)]
      omega
theorem znum_put {ν : zM} {a v : Int} {k n : Nat} (h : k < n) : znum (zup ν a k v a) n = znum (ν a) n + (v - ν a k) * zpw k := by
  have e : zup ν a k v a = fun j => if j = (k : Int) then v else ν a j := by
    funext j
    rw [zup_val]
  rw [e]
  exact znum_set n h
theorem zring1 {N A Z b p q : Int} : N + A * Z * p + A * b * (p * q) = N + A * (Z + b * q) * p := by grind
theorem zring2 {Z v b p : Int} : Z * v + b * v * p = (Z + b * p) * v := by grind
/-- one step of a row of a product -/
theorem zrowstep {N c d x r c' A b p : Int} (h : N + c * p = A) (h2 : x = c + d + b) (h3 : x = r + 1000000000 * c') : (N + (r - d) * p) + c' * (1000000000 * p) = A + b * p := by grind
section
variable {X : zX} {l : Launch} {d : Nat} {μ : zM} {a a1 a2 v1 v2 : Int} {Q : zM → Prop}
theorem k_setProduct (hd : 2 ≤ d) (h : zBig μ a 170) (h1 : zBv μ a1 170 v1) (h2 : zBv μ a2 15 v2) (hab : a + 2 ≤ a1 ∨ a1 + 2 ≤ a) (hac : a + 2 ≤ a2 ∨ a2 + 2 ≤ a) (hv : v1 < zpw 155) (hQ : ∀ ν, (∀ b : Int, b ≠ a → b ≠ a + 1 → ν b = μ b) → zBv ν a 170 (v1 * v2) → Q ν) : zCv X true l d 0 0 y_Big_setProduct [(2, 170, a), (2, 170, a1), (2, 15, a2)] μ Q := by
  refine c_Big_setProduct (d1 := 1) (by omega) (k_setZero (by omega) h fun ν n1 n2 n3 n4 => ?_)
  obtain ⟨⟨g0, g1, g2, g3, g4⟩, g5⟩ := id h1
  obtain ⟨⟨k0, k1, k2, k3, k4⟩, k5⟩ := id h2
  obtain ⟨u, hu⟩ : ∃ u : Nat, μ a1 2 = u := ⟨(μ a1 2).toNat, by omega⟩
  obtain ⟨w, hw⟩ : ∃ w : Nat, μ a2 2 = w := ⟨(μ a2 2).toNat, by omega⟩
  have hU := h1.used hu
  have hW := h2.used hw
  have d1 := h1.1.dig
  have d2 := h2.1.dig
  have u155 : u ≤ 155 := by
    refine Decidable.byContradiction fun c => ?_
    have k := g4 (by omega)
    rw [hu] at k
    have := znum_top (u := u - 1) d1 (by omega) (by rw [show ((u - 1 : Nat) : Int) = (u : Int) - 1 by omega]; exact k)
    have := zpw_mono (m := 155) (n := u - 1) (by omega)
    omega
  -- a row
  have row : ∀ i : Nat, i < u → ∀ (ν0 : zM), (∀ b : Int, b ≠ a + 1 → ν0 b = ν b) → zdig (ν0 (a + 1)) 170 → (∀ k : Int, ((i + w : Nat) : Int) ≤ k → k < 170 → ν0 (a + 1) k = 0) → (∀ ν' : zM, (∀ b : Int, b ≠ a + 1 → ν' b = ν b) → zdig (ν' (a + 1)) 170 → (∀ k : Int, ((i + 1 + w : Nat) : Int) ≤ k → k < 170 → ν' (a + 1) k = 0) → znum (ν' (a + 1)) 170 = znum (ν0 (a + 1)) 170 + μ (a1 + 1) i * v2 * zpw i → zE X true l d 0 0 y_Big_setProduct 6 [some (2, 170, a), some (2, 170, a1), some (2, 15, a2), some (0, 0, (i : Int) + 1), none, none, none, none, none] [] ν' (zrn Q)) → ∀ k j : Nat, j + k = w → ∀ (ν' : zM) (c : Int), (∀ b : Int, b ≠ a + 1 → ν' b = ν b) → zdig (ν' (a + 1)) 170 → (∀ k : Int, ((i + w : Nat) : Int) ≤ k → k < 170 → ν' (a + 1) k = 0) → 0 ≤ c → c < 1000000000 → znum (ν' (a + 1)) 170 + c * zpw (i + j) = znum (ν0 (a + 1)) 170 + μ (a1 + 1) i * znum (μ (a2 + 1)) j * zpw i → zE X true l d 0 0 y_Big_setProduct 28 [some (2, 170, a), some (2, 170, a1), some (2, 15, a2), some (0, 0, (i : Int)), some (1, 0, c), none, some (0, 0, (j : Int)), none, none] [] ν' (zrn Q) := by
    intro i hi ν0 z1 z2 z3 kk k
    have fi := d1 i (by omega) (by omega)
    have frm : ∀ ν' : zM, (∀ b : Int, b ≠ a + 1 → ν' b = ν b) → ν' a 0 = 170 ∧ ν' a2 = μ a2 ∧ ν' (a2 + 1) = μ (a2 + 1) ∧ ν' (a1 + 1) = μ (a1 + 1) := fun ν' q => ⟨by rw [q a (by omega)]; exact n2.1.1, by rw [q _ (by omega), n1 _ (by omega) (by omega)], by rw [q _ (by omega), n1 _ (by omega) (by omega)], by rw [q _ (by omega), n1 _ (by omega) (by omega)]⟩
    induction k with
    | zero =>
      intro j hj ν' c q1 q2 q3 c0 c1 he
      obtain rfl : j = w := by omega
      rw [hW] at he
      obtain ⟨e0, e2, e2', e1'⟩ := frm ν' q1
      have eij : zw ((i : Int) + j) = ((i + j : Nat) : Int) := by rw [zw_of (by omega) (by omega)]; rfl
      refine s_Big_setProduct_28 ⟨fun c => absurd c (by omega), fun _ => ⟨fun c => absurd c (by rw [eij]; omega), fun _ => ⟨fun c => absurd c (by rw [e2]; omega), fun _ => ⟨fun z => ?_, fun z => ?_⟩⟩⟩⟩
      · have cz := zcmp_z z
        rw [cz, Int.zero_mul, Int.add_zero] at he
        rw [zw_of (by omega) (by omega)]
        exact kk ν' q1 q2 (fun k k0 k1 => q3 k (by omega) k1) he
      · -- the last carry
        refine s_Big_setProduct_64 ⟨fun _ => ?_, fun q => absurd (by rw [e2]; omega) q⟩
        have dz := q3 ((i + j : Nat) : Int) (by omega) (by omega)
        refine s_Big_setProduct_94 ?_
        rw [eij, dz, Int.mul_zero, show zwl 0 = 0 by decide, show zwl ((0 : Int) + 0) = 0 by decide, Int.add_zero, zwl_id (by omega) (by omega), zdivl_of (by omega) (by omega) (by decide) (by decide), zreml_of (by omega) (by omega) (by decide) (by decide), zw_of (x := c % 1000000000) (by omega) (by omega), zw_of (x := (j : Int) + 1) (by omega) (by omega), show c / 1000000000 = 0 by omega, show c % 1000000000 = c by omega]
        refine ⟨by omega, by omega, by omega, ?_⟩
        have s1 : ∀ b : Int, b ≠ a + 1 → zup ν' (a + 1) ((i + j : Nat) : Int) c b = ν b := fun b hb => (zup_ne hb).trans (q1 b hb)
        have s2 : zdig (zup ν' (a + 1) ((i + j : Nat) : Int) c (a + 1)) 170 := fun q q0 q4 => by
          rw [zup_val]
          split
          · omega
          · exact q2 q q0 q4
        have s3 : znum (zup ν' (a + 1) ((i + j : Nat) : Int) c (a + 1)) 170 = znum (ν0 (a + 1)) 170 + μ (a1 + 1) i * v2 * zpw i := by
          rw [znum_put (by omega), dz, Int.sub_zero]
          exact he
        obtain ⟨y0, y2, y2', y1'⟩ := frm _ s1
        have eij2 : zw ((i : Int) + ((j : Int) + 1)) = ((i + j + 1 : Nat) : Int) := by rw [zw_of (by omega) (by omega)]; omega
        have fin : zE X true l d 0 0 y_Big_setProduct 6 [some (2, 170, a), some (2, 170, a1), some (2, 15, a2), some (0, 0, zw ((i : Int) + 1)), none, none, none, none, none] [] (zup ν' (a + 1) ((i + j : Nat) : Int) c) (zrn Q) := by
          rw [zw_of (by omega) (by omega)]
          exact kk _ s1 s2 (fun k k0 k1 => by rw [zup_miss (by omega)]; exact q3 k (by omega) k1) s3
        refine s_Big_setProduct_28 ⟨fun _ => fin, fun _ => ⟨fun _ => fin, fun _ => ⟨fun c => absurd c (by rw [y2]; omega), fun _ => ⟨fun _ => fin, fun z => absurd (by decide) z⟩⟩⟩⟩
    | succ k ih =>
      intro j hj ν' c q1 q2 q3 c0 c1 he
      obtain ⟨e0, e2, e2', e1'⟩ := frm ν' q1
      have eij : zw ((i : Int) + j) = ((i + j : Nat) : Int) := by rw [zw_of (by omega) (by omega)]; rfl
      have fj := d2 j (by omega) (by omega)
      have fd := q2 ((i + j : Nat) : Int) (by omega) (by omega)
      have p0 : 0 ≤ μ (a1 + 1) i * μ (a2 + 1) j := Int.mul_nonneg fi.1 fj.1
      have p1 : μ (a1 + 1) i * μ (a2 + 1) j ≤ 999999999 * 999999999 := (zmulb fi.1 (show μ (a1 + 1) i ≤ 999999999 by omega) fj.1 (show μ (a2 + 1) j ≤ 999999999 by omega)).2
      refine s_Big_setProduct_28 ⟨fun c => absurd c (by omega), fun _ => ⟨fun c => absurd c (by rw [eij]; omega), fun _ => ⟨fun _ => s_Big_setProduct_64 ⟨fun q => absurd q (by rw [e2]; omega), fun _ => ⟨fun q => absurd q (by rw [e2]; omega), fun _ => ⟨by omega, s_Big_setProduct_94 ?_⟩⟩⟩, fun c => absurd (by rw [e2]; omega) c⟩⟩⟩
      rw [eij, e1', e2', zwl_id (x := μ (a1 + 1) i * μ (a2 + 1) j) (by omega) (by omega), zwl_id (x := ν' (a + 1) ((i + j : Nat) : Int) + _) (by omega) (by omega), zwl_id (by omega) (by omega), zdivl_of (by omega) (by omega) (by decide) (by decide), zreml_of (by omega) (by omega) (by decide) (by decide), zw_of (x := (j : Int) + 1) (by omega) (by omega), zw_of (by omega) (by omega)]
      refine ⟨by omega, by omega, by omega, ih (j + 1) (by omega) _ _ (fun b hb => (zup_ne hb).trans (q1 b hb)) (fun q q0 q4 => ?_) (fun k k0 k1 => ?_) (by omega) (by omega) ?_⟩
      · rw [zup_val]
        split
        · omega
        · exact q2 q q0 q4
      · rw [zup_miss (by omega)]
        exact q3 k k0 k1
      · rw [znum_put (by omega), show i + (j + 1) = (i + j) + 1 by omega, zpw_succ]
        have st := zrowstep (N := znum (ν' (a + 1)) 170) (c := c) (d := ν' (a + 1) ((i + j : Nat) : Int)) (x := c + (ν' (a + 1) ((i + j : Nat) : Int) + μ (a1 + 1) i * μ (a2 + 1) j)) (r := (c + (ν' (a + 1) ((i + j : Nat) : Int) + μ (a1 + 1) i * μ (a2 + 1) j)) % 1000000000) (c' := (c + (ν' (a + 1) ((i + j : Nat) : Int) + μ (a1 + 1) i * μ (a2 + 1) j)) / 1000000000) (b := μ (a1 + 1) i * μ (a2 + 1) j) (p := zpw (i + j)) he (by omega) (by omega)
        rw [st, zpw_add, znum_s]
        exact zring1
  have l6 : ∀ k i : Nat, i + k = u → ∀ ν' : zM, (∀ b : Int, b ≠ a + 1 → ν' b = ν b) → zdig (ν' (a + 1)) 170 → (∀ k : Int, ((i + w : Nat) : Int) ≤ k → k < 170 → ν' (a + 1) k = 0) → znum (ν' (a + 1)) 170 = znum (μ (a1 + 1)) i * v2 → zE X true l d 0 0 y_Big_setProduct 6 [some (2, 170, a), some (2, 170, a1), some (2, 15, a2), some (0, 0, (i : Int)), none, none, none, none, none] [] ν' (zrn Q) := by
    intro k
    induction k with
    | zero =>
      intro i hi ν' q1 q2 q3 he
      obtain rfl : i = u := by omega
      rw [hU] at he
      have e1 : ν' a1 = μ a1 := by rw [q1 _ (by omega), n1 _ (by omega) (by omega)]
      have e2 : ν' a2 = μ a2 := by rw [q1 _ (by omega), n1 _ (by omega) (by omega)]
      refine s_Big_setProduct_6 (d1 := 1) (by omega) ⟨fun _ => ?_, fun c => absurd (by rw [e1]; omega) c⟩
      rw [e1, e2, hu, hw, zw_of (by omega) (by omega)]
      refine k_settleUsed (L := 170) (by omega) (by omega) (by rw [q1 a (by omega)]; exact n2.1.1) q2 (by omega) (fun j j0 j1 => q3 j (by omega) j1) (fun ν'' r1 r2 => hQ ν'' (fun b b0 b1 => by rw [r1 b b0, q1 b b1, n1 b b0 b1]) ⟨r2, ?_⟩)
      rw [r1 _ (by omega)]
      exact he
    | succ k ih =>
      intro i hi ν' q1 q2 q3 he
      have e1 : ν' a1 = μ a1 := by rw [q1 _ (by omega), n1 _ (by omega) (by omega)]
      refine s_Big_setProduct_6 (d1 := 1) (by omega) ⟨fun c => absurd c (by rw [e1]; omega), fun _ => ⟨fun c => absurd c (by rw [e1]; omega), fun _ => ?_⟩⟩
      refine row i (by omega) ν' q1 q2 q3 (fun ν'' r1 r2 r3 r4 => ih (i + 1) (by omega) ν'' r1 r2 r3 ?_) w 0 (by omega) ν' 0 q1 q2 q3 (by omega) (by omega) (by rw [show znum (μ (a2 + 1)) 0 = 0 from rfl, Int.zero_mul, Int.mul_zero, Int.zero_mul])
      rw [r4, he, znum_s]
      exact zring2
  exact l6 u 0 (by omega) ν (fun _ _ => rfl) n2.1.dig (fun k k0 k1 => n3 k (by omega) k1) (by rw [n2.2, show znum (μ (a1 + 1)) 0 = 0 from rfl, Int.zero_mul])
end
section
variable {X : zX} {l : Launch} {d : Nat} {μ : zM}
theorem k_M_compare {c c1 v w : Int} {Q : Int → zM → Prop} (h : zRn μ c 180 v) (h1 : zRn μ c1 180 w) (hQ : Q (if v < w then -1 else if v = w then 0 else 1) μ) : zCi X true l d 0 0 y_M_compare [(15, 180, c), (15, 180, c1)] μ Q := by
  have loop : ∀ n : Nat, n ≤ 180 → (∀ j : Int, (n : Int) ≤ j → j < 180 → μ c j = μ c1 j) → zE X true l d 0 0 y_M_compare 4 [some (15, 180, c), some (15, 180, c1), some (0, 0, (n : Int) - 1)] [] μ (zri Q) := by
    intro n
    induction n with
    | zero =>
      intro hn hs
      have e : v = w := by rw [← h.2, ← h1.2]; exact znum_congr 180 (fun j j0 j1 => hs j (by omega) j1)
      rw [e, if_neg (by omega), if_pos rfl] at hQ
      exact s_M_compare_4 ⟨fun _ => hQ, fun c => absurd (by omega) c⟩
    | succ n ih =>
      intro hn hs
      have en : ((n + 1 : Nat) : Int) - 1 = n := by omega
      rw [en]
      have hb : (0 : Int) ≤ n ∧ (n : Int) < ((180 : Nat) : Int) := by omega
      refine s_M_compare_4 ⟨fun c => absurd c (by omega), fun _ => ⟨hb, hb, fun e => ?_, fun e => ⟨hb, hb, ?_⟩⟩⟩
      · rw [zcmp_e] at e
        rw [zw_of (by omega) (by omega), show (n : Int) + (-1) = n - 1 by omega]
        refine ih (by omega) (fun j j0 j1 => ?_)
        by_cases q : j = n
        · rw [q]; exact e
        · exact hs j (by omega) j1
      · rw [zcmp_e] at e
        by_cases q : μ c1 n ≤ μ c n
        · rw [if_pos (zcmp_ge.mpr q)]
          have := znum_lt (f := μ c1) (g := μ c) (n := 180) (k := n) h1.1 h.1 (by omega) (fun j j0 j1 => (hs j (by omega) j1).symm) (by omega)
          rw [h.2, h1.2] at this
          rw [if_neg (by omega), if_neg (by omega)] at hQ
          exact hQ
        · rw [if_neg (fun z => q (zcmp_ge.mp z))]
          have := znum_lt (f := μ c) (g := μ c1) (n := 180) (k := n) h.1 h1.1 (by omega) (fun j j0 j1 => hs j (by omega) j1) (by omega)
          rw [h.2, h1.2] at this
          rw [if_pos (by omega)] at hQ
          exact hQ
  have := loop 180 (by omega) (fun j j0 j1 => by omega)
  exact c_M_compare this
end

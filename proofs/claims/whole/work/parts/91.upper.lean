/-! timesUpper -/
section
variable {X : zX} {l : Launch} {d : Nat} {μ : zM} {C U : Int} {Q : zM → Prop}
theorem k_timesUpper (h1 : zRn μ 1344 180 C) (h2 : zRn μ 1333 16 U) (hv : C * U < zpw 180) (hQ : ∀ ν, (∀ b : Int, b ≠ 1344 → b ≠ 1346 → ν b = μ b) → zRn ν 1344 180 (C * U) → Q ν) : zCv X true l d 0 0 y_M_timesUpper [(13, 0, 1320)] μ Q := by
  obtain ⟨d1, g5⟩ := id h1
  obtain ⟨d2, k5⟩ := id h2
  -- the copy
  have l120 : ∀ ν : zM, (∀ b : Int, b ≠ 1346 → ν b = μ b) → zdig (ν 1346) 360 → znum (ν 1346) 360 = C * U → ∀ k i : Nat, i + k = 180 → ∀ ν' : zM, (∀ b : Int, b ≠ 1344 → ν' b = ν b) → (∀ j : Int, 0 ≤ j → j < i → ν' 1344 j = ν 1346 j) → zE X true l d 0 0 y_M_timesUpper 120 [some (13, 0, 1320), some (0, 0, (i : Int)), none, none, none, none, none] [] ν' (zrn Q) := by
    intro ν q1 q2 q3 k
    induction k with
    | zero =>
      intro i hi ν' r1 r2
      obtain rfl : i = 180 := by omega
      refine s_M_timesUpper_120 ⟨fun _ => hQ ν' (fun b b0 b1 => by rw [r1 b b0, q1 b b1]) ⟨fun j j0 j1 => by rw [r2 j j0 j1]; exact q2 j j0 (by omega), ?_⟩, fun c => absurd (by decide) c⟩
      rw [znum_congr (g := ν 1346) 180 r2]
      have sp := znum_split (ν 1346) 180 180
      rw [q3] at sp
      have b1 := znum_bd 180 (f := ν 1346) (fun j a b => q2 j a (by omega))
      have b2 := znum_bd 180 (f := fun i => ν 1346 (((180 : Nat) : Int) + i)) (fun j a b => q2 _ (by omega) (by omega))
      have hz : znum (fun i => ν 1346 (((180 : Nat) : Int) + i)) 180 = 0 := by
        refine Decidable.byContradiction fun c => ?_
        have := Int.mul_le_mul_of_nonneg_left (show 1 ≤ znum (fun i => ν 1346 (((180 : Nat) : Int) + i)) 180 by omega) (Int.le_of_lt (zpw_pos 180))
        omega
      rw [hz, Int.mul_zero, Int.add_zero] at sp
      exact sp.symm
    | succ k ih =>
      intro i hi ν' r1 r2
      refine s_M_timesUpper_120 (a0 := 1320) ⟨fun c => absurd c (by omega), fun _ => ⟨by omega, by omega, ?_⟩⟩
      simp only [Int.reduceAdd]
      rw [zw_of (by omega) (by omega), r1 1346 (by decide)]
      refine ih (i + 1) (by omega) _ (fun b hb => (zup_ne hb).trans (r1 b hb)) (fun j j0 j1 => ?_)
      rw [zup_val]
      split
      · rename_i e; rw [e]
      · exact r2 j j0 (by omega)
  have row : ∀ i : Nat, i < 180 → ∀ (ν0 : zM), (∀ b : Int, b ≠ 1346 → ν0 b = μ b) → (∀ ν' : zM, (∀ b : Int, b ≠ 1346 → ν' b = μ b) → zdig (ν' 1346) 360 → (∀ k : Int, ((i + 1 + 16 : Nat) : Int) ≤ k → k < 360 → ν' 1346 k = 0) → znum (ν' 1346) 360 = znum (ν0 1346) 360 + μ 1344 i * U * zpw i → zE X true l d 0 0 y_M_timesUpper 24 [some (13, 0, 1320), some (0, 0, (i : Int) + 1), none, none, none, none, none] [] ν' (zrn Q)) → ∀ k j : Nat, j + k = 16 → ∀ (ν' : zM) (c : Int), (∀ b : Int, b ≠ 1346 → ν' b = μ b) → zdig (ν' 1346) 360 → (∀ k : Int, ((i + 16 : Nat) : Int) ≤ k → k < 360 → ν' 1346 k = 0) → 0 ≤ c → c < 1000000000 → znum (ν' 1346) 360 + c * zpw (i + j) = znum (ν0 1346) 360 + μ 1344 i * znum (μ 1333) j * zpw i → zE X true l d 0 0 y_M_timesUpper 36 [some (13, 0, 1320), some (0, 0, (i : Int)), some (1, 0, c), none, some (0, 0, (j : Int)), none, none] [] ν' (zrn Q) := by
    intro i hi ν0 z1 kk k
    have fi := d1 i (by omega) (by omega)
    induction k with
    | zero =>
      intro j hj ν' c q1 q2 q3 c0 c1 he
      obtain rfl : j = 16 := by omega
      rw [k5] at he
      have eij : zw ((i : Int) + 16) = ((i + 16 : Nat) : Int) := by rw [zw_of (by omega) (by omega)]; rfl
      have dz := q3 ((i + 16 : Nat) : Int) (by omega) (by omega)
      refine s_M_timesUpper_36 (a0 := 1320) ⟨fun _ => ?_, fun c => absurd (by decide) c⟩
      simp only [Int.reduceAdd]
      rw [eij, dz, Int.zero_add, zwl_id (by omega) (by omega), zw_of (by omega) (by omega)]
      refine ⟨by omega, by omega, kk _ (fun b hb => (zup_ne hb).trans (q1 b hb)) (fun q q0 q4 => ?_) (fun k k0 k1 => ?_) ?_⟩
      · rw [zup_val]
        split
        · omega
        · exact q2 q q0 q4
      · rw [zup_miss (by omega)]
        exact q3 k (by omega) k1
      · rw [znum_put (by omega), dz, Int.sub_zero]
        exact he
    | succ k ih =>
      intro j hj ν' c q1 q2 q3 c0 c1 he
      have eij : zw ((i : Int) + j) = ((i + j : Nat) : Int) := by rw [zw_of (by omega) (by omega)]; rfl
      have fj := d2 j (by omega) (by omega)
      have fd := q2 ((i + j : Nat) : Int) (by omega) (by omega)
      have p0 : 0 ≤ μ 1344 i * μ 1333 j := Int.mul_nonneg fi.1 fj.1
      have p1 : μ 1344 i * μ 1333 j ≤ 999999999 * 999999999 := (zmulb fi.1 (show μ 1344 i ≤ 999999999 by omega) fj.1 (show μ 1333 j ≤ 999999999 by omega)).2
      refine s_M_timesUpper_36 (a0 := 1320) ⟨fun c => absurd c (by omega), fun _ => ?_⟩
      simp only [Int.reduceAdd]
      rw [eij, q1 1344 (by decide), q1 1333 (by decide), zwl_id (x := μ 1344 i * μ 1333 j) (by omega) (by omega), zwl_id (x := ν' 1346 ((i + j : Nat) : Int) + _) (by omega) (by omega), zwl_id (by omega) (by omega), zdivl_of (by omega) (by omega) (by decide) (by decide), zreml_of (by omega) (by omega) (by decide) (by decide), zw_of (x := (j : Int) + 1) (by omega) (by omega)]
      refine ⟨by omega, by omega, by omega, by omega, ih (j + 1) (by omega) _ _ (fun b hb => (zup_ne hb).trans (q1 b hb)) (fun q q0 q4 => ?_) (fun k k0 k1 => ?_) (by omega) (by omega) ?_⟩
      · rw [zup_val]
        split
        · omega
        · exact q2 q q0 q4
      · rw [zup_miss (by omega)]
        exact q3 k k0 k1
      · rw [znum_put (by omega), show i + (j + 1) = (i + j) + 1 by omega, zpw_succ]
        have st := zrowstep (N := znum (ν' 1346) 360) (c := c) (d := ν' 1346 ((i + j : Nat) : Int)) (x := ν' 1346 ((i + j : Nat) : Int) + μ 1344 i * μ 1333 j + c) (r := (ν' 1346 ((i + j : Nat) : Int) + μ 1344 i * μ 1333 j + c) % 1000000000) (c' := (ν' 1346 ((i + j : Nat) : Int) + μ 1344 i * μ 1333 j + c) / 1000000000) (b := μ 1344 i * μ 1333 j) (p := zpw (i + j)) he (by omega) (by omega)
        rw [st, zpw_add, znum_s]
        exact zring1
  have l24 : ∀ k i : Nat, i + k = 180 → ∀ ν' : zM, (∀ b : Int, b ≠ 1346 → ν' b = μ b) → zdig (ν' 1346) 360 → (∀ k : Int, ((i + 16 : Nat) : Int) ≤ k → k < 360 → ν' 1346 k = 0) → znum (ν' 1346) 360 = znum (μ 1344) i * U → zE X true l d 0 0 y_M_timesUpper 24 [some (13, 0, 1320), some (0, 0, (i : Int)), none, none, none, none, none] [] ν' (zrn Q) := by
    intro k
    induction k with
    | zero =>
      intro i hi ν' q1 q2 q3 he
      obtain rfl : i = 180 := by omega
      rw [g5] at he
      exact s_M_timesUpper_24 ⟨fun _ => l120 ν' q1 q2 he 180 0 rfl ν' (fun _ _ => rfl) (fun j j0 j1 => by omega), fun c => absurd (by decide) c⟩
    | succ k ih =>
      intro i hi ν' q1 q2 q3 he
      refine s_M_timesUpper_24 ⟨fun c => absurd c (by omega), fun _ => row i (by omega) ν' q1 (fun ν'' r1 r2 r3 r4 => ih (i + 1) (by omega) ν'' r1 r2 r3 ?_) 16 0 rfl ν' 0 q1 q2 q3 (by omega) (by omega) (by rw [show znum (μ 1333) 0 = 0 from rfl, Int.zero_mul, Int.mul_zero, Int.zero_mul])⟩
      rw [r4, he, znum_s]
      exact zring2
  have l2 : ∀ k i : Nat, i + k = 360 → ∀ ν' : zM, (∀ b : Int, b ≠ 1346 → ν' b = μ b) → (∀ j : Int, 0 ≤ j → j < i → ν' 1346 j = 0) → zE X true l d 0 0 y_M_timesUpper 2 [some (13, 0, 1320), some (0, 0, (i : Int)), none, none, none, none, none] [] ν' (zrn Q) := by
    intro k
    induction k with
    | zero =>
      intro i hi ν' q1 q2
      obtain rfl : i = 360 := by omega
      refine s_M_timesUpper_2 ⟨fun _ => l24 180 0 rfl ν' q1 (fun j j0 j1 => by rw [q2 j j0 j1]; omega) (fun j j0 j1 => q2 j (by omega) j1) ?_, fun c => absurd (by decide) c⟩
      rw [znum_zeros (m := 0) 360 (by omega) (fun j j0 j1 => q2 j (by omega) j1), show znum (ν' 1346) 0 = 0 from rfl, show znum (μ 1344) 0 = 0 from rfl, Int.zero_mul]
    | succ k ih =>
      intro i hi ν' q1 q2
      refine s_M_timesUpper_2 (a0 := 1320) ⟨fun c => absurd c (by omega), fun _ => ⟨by omega, ?_⟩⟩
      simp only [Int.reduceAdd]
      rw [zw_of (by omega) (by omega)]
      refine ih (i + 1) (by omega) _ (fun b hb => (zup_ne hb).trans (q1 b hb)) (fun j j0 j1 => ?_)
      rw [zup_val]
      split
      · rfl
      · exact q2 j j0 (by omega)
  exact c_M_timesUpper (l2 360 0 rfl μ (fun _ _ => rfl) (fun j j0 j1 => by omega))
end

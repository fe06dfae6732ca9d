/-! B1: leaf methods -/
def zpop (x : Int) : Int := [0, 1, 1, 2, 1, 2, 2, 3, 1, 2, 2, 3, 2, 3, 3, 4, 1, 2, 2, 3, 2, 3, 3, 4, 2, 3, 3, 4, 3, 4, 4, 5].getD x.toNat 0
/-- cells i .. n - 1 of a hold v -/
def zfl (μ : zM) (a i n v : Int) : zM := fun b j => if b = a ∧ i ≤ j ∧ j < n then v else μ b j
theorem zfl_end {μ : zM} {a i n v : Int} (h : n ≤ i) : zfl μ a i n v = μ := by
  funext b j
  simp only [zfl]
  rw [if_neg (by omega)]
theorem zfl_step {μ : zM} {a i n v : Int} (h : i < n) : zfl (zup μ a i v) a (i + 1) n v = zfl μ a i n v := by
  funext b j
  simp only [zfl, zup]
  by_cases e : b = a
  · by_cases e2 : j = i
    · subst e2
      simp [e, h]
    · by_cases e3 : i + 1 ≤ j ∧ j < n
      · rw [if_pos ⟨e, e3⟩, if_pos ⟨e, by omega, e3.2⟩]
      · rw [if_neg (fun q => e3 q.2), if_neg (fun q => e2 q.2), if_neg (fun q => by omega)]
  · simp [e]
section
variable {X : zX} {g : Bool} {l : Launch} {d : Nat} {μ : zM}
theorem k_fill_loop {L : Nat} {a v : Int} {Q : Option zV → zM → Prop} (hL : L < 2147483648) : ∀ (k : Nat) (i : Int) (μ : zM), 0 ≤ i → i + k = L → Q none (zfl μ a i L v) → zE X g l d 0 0 y_Arrays_fill 5 [some (14, L, a), some (0, 0, v), some (0, 0, i), some (0, 0, (L : Int))] [] μ Q := by
  intro k
  induction k with
  | zero =>
    intro i μ h0 h1 h
    refine s_Arrays_fill_5 ⟨fun _ => ?_, fun c => absurd (by omega) c⟩
    rw [zfl_end (by omega)] at h
    exact h
  | succ k ih =>
    intro i μ h0 h1 h
    refine s_Arrays_fill_5 ⟨fun c => absurd c (by omega), fun _ => ⟨⟨h0, by omega⟩, ?_⟩⟩
    rw [zw_of (by omega) (by omega)]
    refine ih (i + 1) _ (by omega) (by omega) ?_
    rw [zfl_step (by omega)]
    exact h
theorem k_fill {L : Nat} {a v : Int} {Q : zM → Prop} (hL : L < 2147483648) (h : Q (zfl μ a 0 L v)) : zCv X g l d 0 0 y_Arrays_fill [(14, L, a), (0, 0, v)] μ Q :=
  c_Arrays_fill (k_fill_loop hL L 0 μ (by omega) (by omega) h)
theorem zbc_ok : ∀ n : Nat, n < 32 → ∀ x : Int, x = (n : Int) → zand (zw ((zw ((zand (zw ((zw ((zand (zw (x - (zand (zushr x 1) 1431655765))) 858993459) + (zand (zushr (zw (x - (zand (zushr x 1) 1431655765))) 2) 858993459))) + (zushr (zw ((zand (zw (x - (zand (zushr x 1) 1431655765))) 858993459) + (zand (zushr (zw (x - (zand (zushr x 1) 1431655765))) 2) 858993459))) 4))) 252645135) + (zushr (zand (zw ((zw ((zand (zw (x - (zand (zushr x 1) 1431655765))) 858993459) + (zand (zushr (zw (x - (zand (zushr x 1) 1431655765))) 2) 858993459))) + (zushr (zw ((zand (zw (x - (zand (zushr x 1) 1431655765))) 858993459) + (zand (zushr (zw (x - (zand (zushr x 1) 1431655765))) 2) 858993459))) 4))) 252645135) 8))) + (zushr (zw ((zand (zw ((zw ((zand (zw (x - (zand (zushr x 1) 1431655765))) 858993459) + (zand (zushr (zw (x - (zand (zushr x 1) 1431655765))) 2) 858993459))) + (zushr (zw ((zand (zw (x - (zand (zushr x 1) 1431655765))) 858993459) + (zand (zushr (zw (x - (zand (zushr x 1) 1431655765))) 2) 858993459))) 4))) 252645135) + (zushr (zand (zw ((zw ((zand (zw (x - (zand (zushr x 1) 1431655765))) 858993459) + (zand (zushr (zw (x - (zand (zushr x 1) 1431655765))) 2) 858993459))) + (zushr (zw ((zand (zw (x - (zand (zushr x 1) 1431655765))) 858993459) + (zand (zushr (zw (x - (zand (zushr x 1) 1431655765))) 2) 858993459))) 4))) 252645135) 8))) 16))) 63 = zpop x := by
  intro n hn x hx
  subst hx
  revert n
  decide +kernel
theorem k_bitCount {x : Int} {Q : Int → zM → Prop} (h0 : 0 ≤ x) (h1 : x < 32) (h : Q (zpop x) μ) : zCi X true l d 0 0 y_Integer_bitCount [(0, 0, x)] μ Q := by
  refine c_Integer_bitCount ?_
  rw [zbc_ok x.toNat (by omega) x (by omega)]
  exact h
/-! booleans: their two ways -/
theorem k_S_within {a b c : Int} {Q : Int → zM → Prop} (h1 : b ≤ a → a ≤ c → Q 1 μ) (h0 : ¬ (b ≤ a ∧ a ≤ c) → Q 0 μ) : zCi X true l d 0 0 y_S_within [(0, 0, a), (0, 0, b), (0, 0, c)] μ Q :=
  c_S_within ⟨fun c1 => h0 (by omega), fun c1 => ⟨fun c2 => h0 (by omega), fun c2 => h1 (by omega) (by omega)⟩⟩
theorem k_S_isPlan {a : Int} {Q : Int → zM → Prop} (h1 : 0 ≤ a → a < 6 → Q 1 μ) (h0 : ¬ (0 ≤ a ∧ a < 6) → Q 0 μ) : zCi X true l d 0 0 y_S_isPlan [(0, 0, a)] μ Q :=
  c_S_isPlan ⟨fun c1 => h0 (by omega), fun c1 => ⟨fun c2 => h0 (by omega), fun c2 => h1 (by omega) (by omega)⟩⟩
theorem k_S_isPerson {a : Int} {Q : Int → zM → Prop} (h1 : 0 ≤ a → a < 5 → Q 1 μ) (h0 : ¬ (0 ≤ a ∧ a < 5) → Q 0 μ) : zCi X true l d 0 0 y_S_isPerson [(0, 0, a)] μ Q :=
  c_S_isPerson ⟨fun c1 => h0 (by omega), fun c1 => ⟨fun c2 => h0 (by omega), fun c2 => h1 (by omega) (by omega)⟩⟩
theorem zcmp_lt {a b : Int} : zcmp a b < 0 ↔ a < b := by
  unfold zcmp
  split
  · omega
  · split <;> omega
theorem zcmp_gt {a b : Int} : 0 < zcmp a b ↔ b < a := by
  unfold zcmp
  split
  · omega
  · split <;> omega
theorem zcmp_le {a b : Int} : zcmp a b ≤ 0 ↔ a ≤ b := by
  unfold zcmp
  split
  · omega
  · split <;> omega
theorem zcmp_ge {a b : Int} : 0 ≤ zcmp a b ↔ b ≤ a := by
  unfold zcmp
  split
  · omega
  · split <;> omega
theorem zcmp_eq {a b : Int} : zcmp a b = 0 ↔ a = b := by
  unfold zcmp
  split
  · omega
  · split <;> omega
theorem k_M_in {a b c : Int} {Q : Int → zM → Prop} (h1 : b ≤ a → a ≤ c → Q 1 μ) (h0 : ¬ (b ≤ a ∧ a ≤ c) → Q 0 μ) : zCi X true l d 0 0 y_M_in [(1, 0, a), (1, 0, b), (1, 0, c)] μ Q :=
  c_M_in ⟨fun c1 => h0 (by rw [zcmp_lt] at c1; omega), fun c1 => ⟨fun c2 => h0 (by rw [zcmp_gt] at c2; omega), fun c2 => by rw [zcmp_lt] at c1; rw [zcmp_gt] at c2; exact h1 (by omega) (by omega)⟩⟩
theorem k_M_isPlan {a : Int} {Q : Int → zM → Prop} (hd : 2 ≤ d) (h1 : 0 ≤ a → a < 6 → Q 1 μ) (h0 : ¬ (0 ≤ a ∧ a < 6) → Q 0 μ) : zCi X true l d 0 0 y_M_isPlan [(0, 0, a)] μ Q :=
  c_M_isPlan (d1 := 1) (by omega) (k_M_in (fun p q => ⟨Or.inr rfl, h1 p (by omega)⟩) (fun p => ⟨Or.inl rfl, h0 (by omega)⟩))
theorem k_M_isPerson {a : Int} {Q : Int → zM → Prop} (hd : 2 ≤ d) (h1 : 0 ≤ a → a < 5 → Q 1 μ) (h0 : ¬ (0 ≤ a ∧ a < 5) → Q 0 μ) : zCi X true l d 0 0 y_M_isPerson [(0, 0, a)] μ Q :=
  c_M_isPerson (d1 := 1) (by omega) (k_M_in (fun p q => ⟨Or.inr rfl, h1 p (by omega)⟩) (fun p => ⟨Or.inl rfl, h0 (by omega)⟩))
theorem k_M_isGlance {a : Int} {Q : Int → zM → Prop} (hd : 2 ≤ d) (h1 : 0 ≤ a → a < 12 → Q 1 μ) (h0 : ¬ (0 ≤ a ∧ a < 12) → Q 0 μ) : zCi X true l d 0 0 y_M_isGlance [(0, 0, a)] μ Q :=
  c_M_isGlance (d1 := 1) (by omega) (k_M_in (fun p q => ⟨Or.inr rfl, h1 p (by omega)⟩) (fun p => ⟨Or.inl rfl, h0 (by omega)⟩))
end

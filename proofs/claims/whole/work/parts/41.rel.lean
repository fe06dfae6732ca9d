/-! the relation between a Room of the class (at r) and a row of the reference (ρ): where each number of the row lies in the Room -/
def zla (i : Nat) : Nat × Nat :=
  if i = 0 then (0, 0) else if i = 1 then (0, 9) else if i = 2 then (0, 4) else if i = 3 then (0, 7) else if i = 4 then (10, 0) else if i = 5 then (14, 0) else if i = 6 then (18, 0)
  else if i < 10 then (1000, i)
  else if i < 16 then (22 + 6 * (i - 10), 0)
  else if i < 20 then (1000, i)
  else if i < 35 then (3 + (i - 20) % 3, (i - 20) / 3)
  else if i < 40 then (1000, i)
  else if i < 100 then (23 + 6 * ((i - 40) / 10) + (i - 40) % 10 % 2, (i - 40) % 10 / 2)
  else if i < 160 then (25 + 6 * ((i - 100) / 10) + (i - 100) % 10 / 5, (i - 100) % 10 % 5)
  else if i < 190 then (27 + 6 * ((i - 160) / 5), (i - 160) % 5)
  else if i < 195 then (6, i - 190)
  else if i < 200 then (1000, i)
  else if i < 212 then (7, i - 200)
  else if i < 216 then (9, i - 212)
  else if i < 232 then (11 + (i - 216) % 2, (i - 216) / 2)
  else if i < 240 then (1000, i)
  else if i < 360 then (15 + (i - 240) % 3, (i - 240) / 3)
  else if i < 480 then (19 + (i - 360) % 3, (i - 360) / 3)
  else (1000, i)
def zli (a s : Nat) : Nat :=
  if a = 0 then (if s = 0 then 0 else if s = 9 then 1 else if s = 4 then 2 else 3)
  else if a = 10 then 4 else if a = 14 then 5 else if a = 18 then 6
  else if a < 6 then 20 + 3 * s + (a - 3) else if a = 6 then 190 + s else if a = 7 then 200 + s else if a = 9 then 212 + s
  else if a < 13 then 216 + 2 * s + (a - 11) else if a < 18 then 240 + 3 * s + (a - 15) else if a < 22 then 360 + 3 * s + (a - 19)
  else if (a - 22) % 6 = 0 then 10 + (a - 22) / 6
  else if (a - 22) % 6 < 3 then 40 + 10 * ((a - 22) / 6) + 2 * s + ((a - 22) % 6 - 1)
  else if (a - 22) % 6 < 5 then 100 + 10 * ((a - 22) / 6) + 5 * ((a - 22) % 6 - 3) + s
  else 160 + 5 * ((a - 22) / 6) + s
/-- a place of the row that means something -/
def zvl (i : Nat) : Prop := (zla i).1 < 58
theorem zla_inv : ∀ i, i < 480 → (zla i).1 < 58 → zli (zla i).1 (zla i).2 = i := by decide +kernel
theorem zvl_lt {i : Nat} (h : zvl i) : i < 480 := by
  unfold zvl zla at h
  by_cases e : i < 480
  · exact e
  · simp [show ¬ i = 0 by omega, show ¬ i = 1 by omega, show ¬ i = 2 by omega, show ¬ i = 3 by omega, show ¬ i = 4 by omega, show ¬ i = 5 by omega, show ¬ i = 6 by omega, show ¬ i < 10 by omega, show ¬ i < 16 by omega, show ¬ i < 20 by omega, show ¬ i < 35 by omega, show ¬ i < 40 by omega, show ¬ i < 100 by omega, show ¬ i < 160 by omega, show ¬ i < 190 by omega, show ¬ i < 195 by omega, show ¬ i < 200 by omega, show ¬ i < 212 by omega, show ¬ i < 216 by omega, show ¬ i < 232 by omega, show ¬ i < 240 by omega, show ¬ i < 360 by omega, e] at h
theorem zla_inj {i j : Nat} (hi : zvl i) (hj : zvl j) (h1 : (zla i).1 = (zla j).1) (h2 : (zla i).2 = (zla j).2) : i = j := by
  have e1 := zla_inv i (zvl_lt hi) hi
  have e2 := zla_inv j (zvl_lt hj) hj
  rw [h1, h2] at e1
  exact e1.symm.trans e2
/-- the row with v at i -/
def zrw (ρ : Int → Int) (i v : Int) : Int → Int := fun j => if j = i then v else ρ j
def zRR (U : Nat → Prop) (μ : zM) (r : Int) (ρ : Int → Int) : Prop := ∀ i : Nat, zvl i → U i → μ (r + (zla i).1) (zla i).2 = ρ i
theorem zRR.up {U : Nat → Prop} {μ : zM} {r : Int} {ρ : Int → Int} (h : zRR U μ r ρ) {k : Nat} (hk : zvl k) {v : Int} {a s : Int} (ha : a = r + (zla k).1) (hs : s = (zla k).2) : zRR (fun i => U i ∨ i = k) (zup μ a s v) r (zrw ρ k v) := by
  subst ha hs
  intro i hi hu
  unfold zup zrw
  by_cases e : i = k
  · subst e
    simp
  · have h1 : ¬ (r + ((zla i).1 : Int) = r + ((zla k).1 : Int) ∧ ((zla i).2 : Int) = ((zla k).2 : Int)) := fun q => e (zla_inj hi hk (by omega) (by omega))
    rw [if_neg h1, if_neg (by omega)]
    exact h i hi (hu.resolve_right e)
theorem zRR.keep {U : Nat → Prop} {μ ν : zM} {r : Int} {ρ : Int → Int} (h : zRR U μ r ρ) (hk : ∀ b : Int, r ≤ b → b < r + 58 → ν b = μ b) : zRR U ν r ρ := by
  intro i hi hu
  rw [hk _ (by omega) (by unfold zvl at hi; omega)]
  exact h i hi hu
theorem zRR.sub {U V : Nat → Prop} {μ : zM} {r : Int} {ρ : Int → Int} (h : zRR U μ r ρ) (hV : ∀ i, zvl i → V i → U i) : zRR V μ r ρ := fun i hi hv => h i hi (hV i hi hv)
theorem zRR.row {U : Nat → Prop} {μ : zM} {r : Int} {ρ σ : Int → Int} (h : zRR U μ r ρ) (hs : ∀ i : Nat, zvl i → U i → σ i = ρ i) : zRR U μ r σ := fun i hi hv => (h i hi hv).trans (hs i hi hv).symm
/-- places in use -/
def zU (ρ : Int → Int) (i : Nat) : Prop := (212 ≤ i → i < 216 → (i : Int) < 212 + ρ 3) ∧ (216 ≤ i → i < 232 → (i : Int) < 216 + 2 * ρ 4) ∧ (240 ≤ i → i < 360 → (i : Int) < 240 + 3 * ρ 5) ∧ (360 ≤ i → (i : Int) < 360 + 3 * ρ 6)
/-- what the numbers of a row may be -/
def zRB (ρ : Int → Int) : Prop :=
  (0 ≤ ρ 0 ∧ ρ 0 < 6) ∧ (-1 ≤ ρ 1 ∧ ρ 1 < ρ 3) ∧ (1 ≤ ρ 2 ∧ ρ 2 ≤ 12) ∧ (0 ≤ ρ 3 ∧ ρ 3 ≤ 4) ∧ (0 ≤ ρ 4 ∧ ρ 4 ≤ 8) ∧ (0 ≤ ρ 5 ∧ ρ 5 ≤ 40) ∧ (0 ≤ ρ 6 ∧ ρ 6 ≤ 40) ∧
  (∀ i : Int, 10 ≤ i → i < 16 → 0 ≤ ρ i ∧ ρ i ≤ 5) ∧ (∀ i : Int, 20 ≤ i → i < 35 → 0 ≤ ρ i ∧ ρ i ≤ 9) ∧ (∀ i : Int, 40 ≤ i → i < 100 → 0 ≤ ρ i ∧ ρ i ≤ (if i % 2 = 0 then 2 else 11)) ∧ (∀ i : Int, 100 ≤ i → i < 160 → 0 ≤ ρ i ∧ ρ i ≤ 31) ∧ (∀ i : Int, 160 ≤ i → i < 190 → -1 ≤ ρ i ∧ ρ i ≤ 11) ∧
  (∀ i : Int, 190 ≤ i → i < 195 → 0 ≤ ρ i ∧ ρ i ≤ 31) ∧ (∀ i : Int, 200 ≤ i → i < 212 → 0 ≤ ρ i ∧ ρ i ≤ 99) ∧ (∀ i : Int, 212 ≤ i → i < 216 → 0 ≤ ρ i ∧ ρ i ≤ 100 ∧ (212 + ρ 3 ≤ i → ρ i = 1)) ∧
  (∀ i : Int, 216 ≤ i → i < 216 + 2 * ρ 4 → 0 ≤ ρ i ∧ ρ i ≤ (if i % 2 = 0 then 5 else 1)) ∧ (∀ i : Int, 240 ≤ i → i < 240 + 3 * ρ 5 → 0 ≤ ρ i ∧ ρ i ≤ (if i % 3 = 0 then 7 else if i % 3 = 1 then 99 else 1) ∧ (i % 3 = 1 → 1 ≤ ρ i)) ∧ (∀ i : Int, 360 ≤ i → i < 360 + 3 * ρ 6 → 0 ≤ ρ i ∧ ρ i ≤ (if i % 3 = 0 then 9 else 1))
theorem zRB.up {ρ : Int → Int} (h : zRB ρ) {k v : Int} (hk : (10 ≤ k ∧ k < 16 ∧ 0 ≤ v ∧ v ≤ 5) ∨ (20 ≤ k ∧ k < 35 ∧ 0 ≤ v ∧ v ≤ 9) ∨ (40 ≤ k ∧ k < 100 ∧ 0 ≤ v ∧ v ≤ (if k % 2 = 0 then 2 else 11)) ∨ (100 ≤ k ∧ k < 160 ∧ 0 ≤ v ∧ v ≤ 31) ∨ (160 ≤ k ∧ k < 190 ∧ -1 ≤ v ∧ v ≤ 11) ∨ (190 ≤ k ∧ k < 195 ∧ 0 ≤ v ∧ v ≤ 31) ∨ (200 ≤ k ∧ k < 212 ∧ 0 ≤ v ∧ v ≤ 99) ∨ (212 ≤ k ∧ k < 212 + ρ 3 ∧ 0 ≤ v ∧ v ≤ 100) ∨ (k = 0 ∧ 0 ≤ v ∧ v < 6) ∨ (k = 1 ∧ -1 ≤ v ∧ v < ρ 3) ∨ (k = 2 ∧ 1 ≤ v ∧ v ≤ 12)) : zRB (zrw ρ k v) := by
  obtain ⟨h0, h1, h2, h3, h4, h5, h6, h7, h8, h9, h10, h11, h12, h13, h14, h15, h16, h17⟩ := h
  have e3 : zrw ρ k v 3 = ρ 3 := by unfold zrw; rw [if_neg]; omega
  have e4 : zrw ρ k v 4 = ρ 4 := by unfold zrw; rw [if_neg]; omega
  have e5 : zrw ρ k v 5 = ρ 5 := by unfold zrw; rw [if_neg]; omega
  have e6 : zrw ρ k v 6 = ρ 6 := by unfold zrw; rw [if_neg]; omega
  unfold zRB
  rw [e3, e4, e5, e6]
  have ex : ∀ i, zrw ρ k v i = if i = k then v else ρ i := fun i => rfl
  refine ⟨?_, ?_, ?_, h3, h4, h5, h6, fun i a b => ?_, fun i a b => ?_, fun i a b => ?_, fun i a b => ?_, fun i a b => ?_, fun i a b => ?_, fun i a b => ?_, fun i a b => ?_, fun i a b => ?_, fun i a b => ?_, fun i a b => ?_⟩
  · rw [ex]; split <;> omega
  · rw [ex]; split <;> omega
  · rw [ex]; split <;> omega
  · have := h7 i a b; rw [ex]; split <;> omega
  · have := h8 i a b; rw [ex]; split <;> omega
  · have := h9 i a b; rw [ex]; split
    · subst i; omega
    · exact this
  · have := h10 i a b; rw [ex]; split <;> omega
  · have := h11 i a b; rw [ex]; split <;> omega
  · have := h12 i a b; rw [ex]; split <;> omega
  · have := h13 i a b; rw [ex]; split <;> omega
  · have := h14 i a b; rw [ex]; split
    · exact ⟨by omega, by omega, by omega⟩
    · exact this
  · have := h15 i a b; rw [ex, if_neg (by omega)]; exact this
  · have := h16 i a b; rw [ex, if_neg (by omega)]; exact this
  · have := h17 i a b; rw [ex, if_neg (by omega)]; exact this

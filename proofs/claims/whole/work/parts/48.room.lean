section
variable {LR : zM → Int → (Int → Int) → Prop} {μ : zM} {X : zX} {l : Launch} {d : Nat} {Q : Int → Int → zM → Prop}
/-- a call that changes the room of both sides, and answers -/
theorem zInv.room (hL : zLRok LR) (h : zInv LR μ) {μ1 ν : zM} {ρ : Int → Int} (hk : ∀ b : Int, ¬ (1 ≤ b ∧ b < 87) → μ1 b = μ b) (hR : zRoom LR μ1 1 ρ) (n0 : ∀ b : Int, b ≠ 0 → b ≠ 1320 → b ≠ 1322 → ν b = μ1 b) (n1 : ∀ j : Int, j ≠ 10 → ν 0 j = μ 0 j) (n2 : ∀ j : Int, j ≠ 0 → j ≠ 1 → ν 1320 j = μ 1320 j) (n3 : ν 0 10 = ν 1320 1) (n4 : ν 1322 = ρ) : zInv LR ν := by
  have f : ∀ b : Int, b ≠ 0 → b ≠ 1320 → b ≠ 1322 → ¬ (1 ≤ b ∧ b < 87) → ν b = μ b := fun b q1 q2 q3 q4 => (n0 b q1 q2 q3).trans (hk b q4)
  obtain ⟨a1, a2, a3, a4, a5, a6, a7, a8, a9⟩ := id h
  refine h.step hL ⟨n1 4 (by decide), n1 6 (by decide), n2 7 (by decide) (by decide), n2 12 (by decide) (by decide), n2 45 (by decide) (by decide)⟩ n3 ?_ ⟨f _ (by decide) (by decide) (by decide) (by decide), f _ (by decide) (by decide) (by decide) (by decide), f _ (by decide) (by decide) (by decide) (by decide), f _ (by decide) (by decide) (by decide) (by decide), f _ (by decide) (by decide) (by decide) (by decide), f _ (by decide) (by decide) (by decide) (by decide), f _ (by decide) (by decide) (by decide) (by decide)⟩ (fun b h1 h2 => f b (by omega) (by omega) (by omega) (by omega)) ?_ (a9.keep (fun b h1 h2 => f b (by omega) (by omega) (by omega) (by omega)))
  · rw [f 103 (by decide) (by decide) (by decide) (by decide), f 1321 (by decide) (by decide) (by decide) (by decide)]; exact a5
  · rw [n4]
    exact hR.keep hL (fun b h1 h2 => n0 b (by omega) (by omega) (by omega))
theorem zRR.skip {U : Nat → Prop} {r : Int} {ρ : Int → Int} (h : zRR U μ r ρ) {c s v a : Int} (ha : a = r + c) (hc : ∀ i : Nat, zvl i → ((zla i).1 : Int) ≠ c) : zRR U (zup μ a s v) r ρ := by
  subst ha
  intro i hi hu
  rw [zup_ne (fun q => hc i hi (by omega))]
  exact h i hi hu
theorem zla_13 : ∀ i, i < 480 → (zla i).1 ≠ 13 := by decide +kernel
/-- what Rows.put does -/
theorem k_Rows_put {L : Nat} {a x y z : Int} {Q : Int → zM → Prop} (hL : L < 1000) (hr : μ a 1 = L) (hm : 0 ≤ μ a 0) (h1 : μ a 0 < L → Q (μ a 0) (zup (zup (zup (zup μ (a + 1) (μ a 0) x) (a + 2) (μ a 0) y) (a + 3) (μ a 0) z) a 0 (μ a 0 + 1))) (h0 : ¬ μ a 0 < L → Q (-1) μ) : zCi X true l d 0 0 y_Rows_put [(8, L, a), (0, 0, x), (0, 0, y), (0, 0, z)] μ Q := by
  have e1 : ∀ s v : Int, zup μ (a + 1) s v a 0 = μ a 0 := fun s v => zup_miss (by omega)
  have e2 : ∀ s v s' v' : Int, zup (zup μ (a + 1) s v) (a + 2) s' v' a 0 = μ a 0 := fun s v s' v' => by rw [zup_miss (by omega)]; exact e1 s v
  have e3 : ∀ s v s' v' s2 v2 : Int, zup (zup (zup μ (a + 1) s v) (a + 2) s' v') (a + 3) s2 v2 a 0 = μ a 0 := fun s v s' v' s2 v2 => by rw [zup_miss (by omega)]; exact e2 s v s' v'
  refine c_Rows_put ⟨fun c => absurd c (by omega), fun _ => ⟨fun c => ?_, fun c => h0 (by omega)⟩⟩
  rw [hr] at c
  simp only [e1, e2, e3]
  refine ⟨⟨hm, c⟩, ⟨hm, c⟩, ⟨hm, c⟩, ?_⟩
  rw [zw_of (x := μ a 0 + 1) (by omega) (by omega), zup_hit, zw_of (by omega) (by omega)]
  have : μ a 0 + 1 - 1 = μ a 0 := by omega
  rw [this]
  exact h1 c
theorem k_S_noteDown {L : Nat} {a x y z : Int} {Q : Int → zM → Prop} (hd : 2 ≤ d) (hL : L < 1000) (hr : μ a 1 = L) (hm : 0 ≤ μ a 0) (h1 : μ a 0 < L → Q (μ a 0) (sok (zup (zup (zup (zup μ (a + 1) (μ a 0) x) (a + 2) (μ a 0) y) (a + 3) (μ a 0) z) a 0 (μ a 0 + 1)))) (h0 : ¬ μ a 0 < L → Q (-5) (sref μ (-5) 2)) : zCi X true l d 0 0 y_S_noteDown [(12, 0, 0), (8, L, a), (0, 0, x), (0, 0, y), (0, 0, z)] μ Q :=
  c_S_noteDown (d1 := 1) (by omega) (k_Rows_put hL hr hm (fun c => ⟨fun _ => k_S_allow (h1 c), fun q => absurd q (by omega)⟩) (fun c => ⟨fun q => absurd rfl q, fun _ => k_S_refuse5 (h0 c)⟩))
end

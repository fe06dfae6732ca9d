/-! calls that set one number of the room, refusals: both sides -/
section
variable {LR : zM → Int → (Int → Int) → Prop} {μ : zM}
theorem zInv.set (hL : zLRok LR) (h : zInv LR μ) {k : Nat} (hk : zvl k) (hu : zU (μ 1322) k) (hc : k ≠ 3 ∧ k ≠ 4 ∧ k ≠ 5 ∧ k ≠ 6) {a s v : Int} (ha : a = 1 + (zla k).1) (hs : s = (zla k).2) (hB : zRB (zrw (μ 1322) k v)) :
    zInv LR (mok (zup (zup (sok (zup μ a s v)) 1320 0 0) 1322 k v)) ∧ μ a s = μ 1322 k ∧ (zup (sok (zup μ a s v)) 1320 0 0) 1322 k = μ 1322 k := by
  have h9 := hk
  unfold zvl at h9
  have hr : μ a s = μ 1322 k := by rw [ha, hs]; exact h.2.2.2.2.2.1.1 k hk hu
  have far : ∀ b : Int, b ≤ 0 ∨ 59 ≤ b → zup μ a s v b = μ b := fun b hb => zup_ne (by omega)
  have f0 : ∀ b : Int, b ≠ 0 → b ≠ 1320 → b ≠ 1322 → (mok (zup (zup (sok (zup μ a s v)) 1320 0 0) 1322 k v)) b = zup μ a s v b := fun b h1 h2 h3 => by
    unfold mok sok
    rw [zup_ne h2, zup_ne h3, zup_ne h2, zup_ne h1]
  have f1 : ∀ j : Int, j ≠ 10 → (mok (zup (zup (sok (zup μ a s v)) 1320 0 0) 1322 k v)) 0 j = μ 0 j := fun j hj => by
    unfold mok sok
    rw [zup_ne (by decide), zup_ne (by decide), zup_ne (by decide), zup_miss (by omega), far 0 (by omega)]
  have f2 : ∀ j : Int, j ≠ 0 → j ≠ 1 → (mok (zup (zup (sok (zup μ a s v)) 1320 0 0) 1322 k v)) 1320 j = μ 1320 j := fun j h0 h1 => by
    unfold mok sok
    rw [zup_miss (by omega), zup_ne (by decide), zup_miss (by omega), zup_ne (by decide), far 1320 (by omega)]
  have f3 : (mok (zup (zup (sok (zup μ a s v)) 1320 0 0) 1322 k v)) 1322 = zrw (μ 1322) k v := by
    unfold mok sok
    rw [zup_ne (by decide), zup_at, zup_ne (by decide), zup_ne (by decide), far 1322 (by omega)]
    rfl
  obtain ⟨a1, a2, a3, a4, a5, a6, a7, a8, a9⟩ := id h
  refine ⟨h.step hL ⟨f1 4 (by decide), f1 6 (by decide), f2 7 (by decide) (by decide), f2 12 (by decide) (by decide), f2 45 (by decide) (by decide)⟩ ?_ ?_ ?_ (fun b h1 h2 => ?_) ?_ (a9.keep (fun b h1 h2 => by rw [f0 b (by omega) (by omega) (by omega), far b (by omega)])), hr, ?_⟩
  · have e1 : (mok (zup (zup (sok (zup μ a s v)) 1320 0 0) 1322 k v)) 0 10 = 0 := by
      unfold mok sok
      rw [zup_ne (by decide), zup_ne (by decide), zup_ne (by decide), zup_hit]
    have e2 : (mok (zup (zup (sok (zup μ a s v)) 1320 0 0) 1322 k v)) 1320 1 = 0 := by
      unfold mok
      rw [zup_hit]
    rw [e1, e2]
  · rw [f0 103 (by decide) (by decide) (by decide), f0 1321 (by decide) (by decide) (by decide), far 103 (by omega), far 1321 (by omega)]
    exact a5
  · refine ⟨?_, ?_, ?_, ?_, ?_, ?_, ?_⟩
    · rw [f0 89 (by decide) (by decide) (by decide), far 89 (by omega)]
    · rw [f0 1325 (by decide) (by decide) (by decide), far 1325 (by omega)]
    · rw [f0 88 (by decide) (by decide) (by decide), far 88 (by omega)]
    · rw [f0 1324 (by decide) (by decide) (by decide), far 1324 (by omega)]
    · rw [f0 1323 (by decide) (by decide) (by decide), far 1323 (by omega)]
    · rw [f0 100 (by decide) (by decide) (by decide), far 100 (by omega)]
    · rw [f0 1342 (by decide) (by decide) (by decide), far 1342 (by omega)]
  · rw [f0 b (by omega) (by omega) (by omega), far b (by omega)]
  · rw [f3]
    exact (a6.up hL hk hu hc ha hs hB).keep hL (fun b h1 h2 => f0 b (by omega) (by omega) (by omega))
  · unfold sok
    rw [zup_ne (by decide), zup_ne (by decide), far 1322 (by omega)]
theorem zInv.ref (hL : zLRok LR) (h : zInv LR μ) {e k : Int} (he : e = -1 ∧ k = 0 ∨ e = -2 ∧ k = 1 ∨ e = -5 ∧ k = 2 ∨ e = -6 ∧ k = 3) : zInv LR (mref (zup (sref μ e k) 1320 0 0) e) := by
  obtain ⟨a1, a2, a3, a4, a5, a6, a7, a8, a9⟩ := id h
  have f0 : ∀ b : Int, b ≠ 0 → b ≠ 1320 → b ≠ 103 → b ≠ 1321 → (mref (zup (sref μ e k) 1320 0 0) e) b = μ b := fun b h1 h2 h3 h4 => by
    unfold mref sref
    rw [zup_ne h4, zup_ne h2, zup_ne h2, zup_ne h3, zup_ne h1]
  have f1 : ∀ j : Int, j ≠ 10 → (mref (zup (sref μ e k) 1320 0 0) e) 0 j = μ 0 j := fun j hj => by
    unfold mref sref
    rw [zup_ne (by decide), zup_ne (by decide), zup_ne (by decide), zup_ne (by decide), zup_miss (by omega)]
  have f2 : ∀ j : Int, j ≠ 0 → j ≠ 1 → (mref (zup (sref μ e k) 1320 0 0) e) 1320 j = μ 1320 j := fun j h0 h1 => by
    unfold mref sref
    rw [zup_ne (by decide), zup_miss (by omega), zup_miss (by omega), zup_ne (by decide), zup_ne (by decide)]
  have f3 : ∀ j : Int, (mref (zup (sref μ e k) 1320 0 0) e) 103 j = if j = k then zw (μ 103 k + 1) else μ 103 j := fun j => by
    unfold mref sref
    rw [zup_ne (by decide), zup_ne (by decide), zup_ne (by decide), zup_at, zup_ne (by decide)]
  have f4 : ∀ j : Int, (mref (zup (sref μ e k) 1320 0 0) e) 1321 j = if j = -e then zw (μ 1321 (-e) + 1) else μ 1321 j := fun j => by
    unfold mref sref
    rw [zup_at]
    simp only [zup_ne (show (1321 : Int) ≠ 1320 by decide), zup_ne (show (1321 : Int) ≠ 103 by decide), zup_ne (show (1321 : Int) ≠ 0 by decide)]
  refine h.step hL ⟨f1 4 (by decide), f1 6 (by decide), f2 7 (by decide) (by decide), f2 12 (by decide) (by decide), f2 45 (by decide) (by decide)⟩ ?_ ?_ ?_ (fun b h1 h2 => ?_) ?_ (a9.keep (fun b h1 h2 => f0 b (by omega) (by omega) (by omega) (by omega)))
  · have e1 : (mref (zup (sref μ e k) 1320 0 0) e) 0 10 = e := by
      unfold mref sref
      rw [zup_ne (by decide), zup_ne (by decide), zup_ne (by decide), zup_ne (by decide), zup_hit]
    have e2 : (mref (zup (sref μ e k) 1320 0 0) e) 1320 1 = e := by
      unfold mref
      rw [zup_ne (by decide), zup_hit]
    rw [e1, e2]
  · obtain ⟨b1, b2, b3, b4⟩ := a5
    simp only [f3, f4]
    rcases he with ⟨rfl, rfl⟩ | ⟨rfl, rfl⟩ | ⟨rfl, rfl⟩ | ⟨rfl, rfl⟩ <;> simp [b1, b2, b3, b4]
  · refine ⟨?_, ?_, ?_, ?_, ?_, ?_, ?_⟩ <;> exact f0 _ (by decide) (by decide) (by decide) (by decide)
  · exact f0 b (by omega) (by omega) (by omega) (by omega)
  · rw [f0 1322 (by decide) (by decide) (by decide) (by decide)]
    exact a6.keep hL (fun b h1 h2 => f0 b (by omega) (by omega) (by omega) (by omega))
end

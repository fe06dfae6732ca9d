/-! fault status count went end -/
section
variable {LR : zM → Int → (Int → Int) → Prop} {μ : zM} {X : zX} {l : Launch} {d : Nat} {Q : Int → Int → zM → Prop}
theorem zInv.thrown (hL : zLRok LR) (h : zInv LR μ) : zInv LR (zup μ 1320 0 0) := by
  have f0 : ∀ b : Int, b ≠ 1320 → zup μ 1320 0 0 b = μ b := fun b hb => zup_ne hb
  have f1 : ∀ j : Int, j ≠ 0 → zup μ 1320 0 0 1320 j = μ 1320 j := fun j hj => zup_miss (by omega)
  obtain ⟨a1, a2, a3, a4, a5, a6, a7, a8, a9⟩ := id h
  refine h.step hL ⟨by rw [f0 0 (by decide)], by rw [f0 0 (by decide)], f1 7 (by decide), f1 12 (by decide), f1 45 (by decide)⟩ ?_ ?_ ⟨f0 _ (by decide), f0 _ (by decide), f0 _ (by decide), f0 _ (by decide), f0 _ (by decide), f0 _ (by decide), f0 _ (by decide)⟩ (fun b h1 h2 => f0 b (by omega)) ?_ (a9.keep (fun b h1 h2 => f0 b (by omega)))
  · rw [f0 0 (by decide), f1 1 (by decide)]; exact a4
  · rw [f0 103 (by decide), f0 1321 (by decide)]; exact a5
  · rw [f0 1322 (by decide)]
    exact a6.keep hL (fun b h1 h2 => f0 b (by omega))
theorem zth {b j : Int} (h : ¬ (b = 1320 ∧ j = 0)) : zup μ 1320 0 0 b j = μ b j := zup_miss h
theorem p_fault (hL : zLRok LR) (h : zInv LR μ) (hQ : ∀ v ρ, zInv LR ρ → Q v v ρ) : zCi X true l d 0 0 y_S_fault [(12, 0, 0)] μ (fun v ν => zCi X true l d 0 0 y_M_fault [(13, 0, 1320)] ν (fun w ρ => Q v w ρ)) := by
  refine c_S_fault (c_M_fault ?_)
  rw [zth (by decide), h.2.2.1]
  exact hQ _ _ (h.thrown hL)
theorem p_status (hL : zLRok LR) (h : zInv LR μ) (hQ : ∀ v ρ, zInv LR ρ → Q v v ρ) : zCi X true l d 0 0 y_S_status [(12, 0, 0)] μ (fun v ν => zCi X true l d 0 0 y_M_status [(13, 0, 1320)] ν (fun w ρ => Q v w ρ)) := by
  refine c_S_status (c_M_status ?_)
  rw [zth (by decide), h.2.2.2.1]
  exact hQ _ _ (h.thrown hL)
theorem zInv.num (h : zInv LR μ) (i : Nat) (hi : i < 212) {a s : Nat} (hz : zla i = (a, s)) (ha : a < 58) : μ (1 + a) s = μ 1322 i := by
  have := h.2.2.2.2.2.1.at' i (by unfold zvl; rw [hz]; exact ha) (zU_free hi)
  rw [hz] at this
  exact this
theorem p_count {x : Int} (hL : zLRok LR) (h : zInv LR μ) (hd : 3 ≤ d) (hQ : ∀ v ρ, zInv LR ρ → Q v v ρ) : zCi X true l d 0 0 y_S_count [(12, 0, 0), (0, 0, x)] μ (fun v ν => zCi X true l d 0 0 y_M_count [(13, 0, 1320), (0, 0, x)] ν (fun w ρ => Q v w ρ)) := by
  obtain ⟨e0, u0, u1⟩ := h.use
  have ht := h.thrown hL
  have fin : ∀ v w : Int, v = w → Q v w (zup μ 1320 0 0) := fun v w e => by rw [e]; exact hQ _ _ ht
  obtain ⟨r1, r2, r3, r4⟩ := h.2.2.2.2.1
  have mm : ∀ (P : Int → zM → Prop), (∀ k : Int, x = k → True) → True := fun _ _ => trivial
  have hno : ∀ (k : Int) {A : Prop}, x = k → (∀ j : Int, j ≠ k → (x = j → False)) := fun k A e j hj e2 => hj (by omega)
  refine c_S_count (d1 := 2) (by omega) ⟨fun c => ?_, fun c => ?_, fun c => ?_, fun c => ?_, fun c => ?_, fun c => ?_, fun c => ?_, fun c => ?_, fun c => ?_, fun c => ?_, fun c => ?_, fun c => ?_, fun c => ?_⟩
  · obtain ⟨p, hp⟩ : ∃ p : Nat, μ 1322 0 = p := ⟨(μ 1322 0).toNat, by omega⟩
    refine k_S_planInUse (by omega) (by omega) (c_M_count ⟨fun _ => ?_, fun q => absurd q (by omega), fun q => absurd q (by omega), fun q => absurd q (by omega), fun q => absurd q (by omega), fun q => absurd q (by omega), fun q => absurd q (by omega), fun q => absurd q (by omega), fun q => absurd q (by omega), fun q => absurd q (by omega), fun q => absurd q (by omega), fun q => absurd q (by omega), fun q => absurd q (by omega)⟩)
    have e1 : zup μ 1320 0 0 (1320 + 2) 0 = μ 1322 0 := zth (by decide)
    rw [e1, zw_of (by omega) (by omega)]
    refine ⟨⟨by omega, by omega⟩, fin _ _ ?_⟩
    rw [zth (by omega)]
    have := h.num (10 + p) (by omega) (zl_people p (by omega)) (by omega)
    have e2 : (23 : Int) + 6 * μ 1 0 = 1 + ((22 + 6 * p : Nat) : Int) := by omega
    have e3 : (10 : Int) + μ 1322 0 = ((10 + p : Nat) : Int) := by omega
    show μ (23 + 6 * μ 1 0) 0 = μ 1322 (10 + μ 1322 0)
    rw [e2, e3]
    exact this
  · exact c_M_count ⟨fun q => absurd q (by omega), fun _ => fin _ _ (h.num 3 (by decide) (a := 0) (s := 7) rfl (by decide)), fun q => absurd q (by omega), fun q => absurd q (by omega), fun q => absurd q (by omega), fun q => absurd q (by omega), fun q => absurd q (by omega), fun q => absurd q (by omega), fun q => absurd q (by omega), fun q => absurd q (by omega), fun q => absurd q (by omega), fun q => absurd q (by omega), fun q => absurd q (by omega)⟩
  · exact c_M_count ⟨fun q => absurd q (by omega), fun q => absurd q (by omega), fun _ => fin _ _ (h.num 4 (by decide) (a := 10) (s := 0) rfl (by decide)), fun q => absurd q (by omega), fun q => absurd q (by omega), fun q => absurd q (by omega), fun q => absurd q (by omega), fun q => absurd q (by omega), fun q => absurd q (by omega), fun q => absurd q (by omega), fun q => absurd q (by omega), fun q => absurd q (by omega), fun q => absurd q (by omega)⟩
  · exact c_M_count ⟨fun q => absurd q (by omega), fun q => absurd q (by omega), fun q => absurd q (by omega), fun _ => fin _ _ (h.num 5 (by decide) (a := 14) (s := 0) rfl (by decide)), fun q => absurd q (by omega), fun q => absurd q (by omega), fun q => absurd q (by omega), fun q => absurd q (by omega), fun q => absurd q (by omega), fun q => absurd q (by omega), fun q => absurd q (by omega), fun q => absurd q (by omega), fun q => absurd q (by omega)⟩
  · exact c_M_count ⟨fun q => absurd q (by omega), fun q => absurd q (by omega), fun q => absurd q (by omega), fun q => absurd q (by omega), fun _ => fin _ _ (h.num 6 (by decide) (a := 18) (s := 0) rfl (by decide)), fun q => absurd q (by omega), fun q => absurd q (by omega), fun q => absurd q (by omega), fun q => absurd q (by omega), fun q => absurd q (by omega), fun q => absurd q (by omega), fun q => absurd q (by omega), fun q => absurd q (by omega)⟩
  · exact c_M_count ⟨fun q => absurd q (by omega), fun q => absurd q (by omega), fun q => absurd q (by omega), fun q => absurd q (by omega), fun q => absurd q (by omega), fun _ => fin _ _ h.1.1, fun q => absurd q (by omega), fun q => absurd q (by omega), fun q => absurd q (by omega), fun q => absurd q (by omega), fun q => absurd q (by omega), fun q => absurd q (by omega), fun q => absurd q (by omega)⟩
  · subst c
    exact ⟨by decide, c_M_count ⟨fun q => absurd q (by omega), fun q => absurd q (by omega), fun q => absurd q (by omega), fun q => absurd q (by omega), fun q => absurd q (by omega), fun q => absurd q (by omega), fun _ => fin _ _ r1, fun q => absurd q (by omega), fun q => absurd q (by omega), fun q => absurd q (by omega), fun q => absurd q (by omega), fun q => absurd q (by omega), fun q => absurd q (by omega)⟩⟩
  · subst c
    exact ⟨by decide, c_M_count ⟨fun q => absurd q (by omega), fun q => absurd q (by omega), fun q => absurd q (by omega), fun q => absurd q (by omega), fun q => absurd q (by omega), fun q => absurd q (by omega), fun q => absurd q (by omega), fun _ => fin _ _ r2, fun q => absurd q (by omega), fun q => absurd q (by omega), fun q => absurd q (by omega), fun q => absurd q (by omega), fun q => absurd q (by omega)⟩⟩
  · subst c
    exact ⟨by decide, c_M_count ⟨fun q => absurd q (by omega), fun q => absurd q (by omega), fun q => absurd q (by omega), fun q => absurd q (by omega), fun q => absurd q (by omega), fun q => absurd q (by omega), fun q => absurd q (by omega), fun q => absurd q (by omega), fun _ => fin _ _ r3, fun q => absurd q (by omega), fun q => absurd q (by omega), fun q => absurd q (by omega), fun q => absurd q (by omega)⟩⟩
  · subst c
    exact ⟨by decide, c_M_count ⟨fun q => absurd q (by omega), fun q => absurd q (by omega), fun q => absurd q (by omega), fun q => absurd q (by omega), fun q => absurd q (by omega), fun q => absurd q (by omega), fun q => absurd q (by omega), fun q => absurd q (by omega), fun q => absurd q (by omega), fun _ => fin _ _ r4, fun q => absurd q (by omega), fun q => absurd q (by omega), fun q => absurd q (by omega)⟩⟩
  · exact c_M_count ⟨fun q => absurd q (by omega), fun q => absurd q (by omega), fun q => absurd q (by omega), fun q => absurd q (by omega), fun q => absurd q (by omega), fun q => absurd q (by omega), fun q => absurd q (by omega), fun q => absurd q (by omega), fun q => absurd q (by omega), fun q => absurd q (by omega), fun _ => fin _ _ e0, fun q => absurd q (by omega), fun q => absurd q (by omega)⟩
  · exact c_M_count ⟨fun q => absurd q (by omega), fun q => absurd q (by omega), fun q => absurd q (by omega), fun q => absurd q (by omega), fun q => absurd q (by omega), fun q => absurd q (by omega), fun q => absurd q (by omega), fun q => absurd q (by omega), fun q => absurd q (by omega), fun q => absurd q (by omega), fun q => absurd q (by omega), fun _ => fin _ _ (h.num 1 (by decide) (a := 0) (s := 9) rfl (by decide)), fun q => absurd q (by omega)⟩
  · exact c_M_count ⟨fun q => absurd q (by omega), fun q => absurd q (by omega), fun q => absurd q (by omega), fun q => absurd q (by omega), fun q => absurd q (by omega), fun q => absurd q (by omega), fun q => absurd q (by omega), fun q => absurd q (by omega), fun q => absurd q (by omega), fun q => absurd q (by omega), fun q => absurd q (by omega), fun q => absurd q (by omega), fun _ => fin _ _ rfl⟩
theorem p_went {x : Int} (hL : zLRok LR) (h : zInv LR μ) (hd : 3 ≤ d) (hQ : ∀ v ρ, zInv LR ρ → Q v v ρ) : zCi X true l d 0 0 y_S_went [(12, 0, 0), (0, 0, x)] μ (fun v ν => zCi X true l d 0 0 y_M_went [(13, 0, 1320), (0, 0, x)] ν (fun w ρ => Q v w ρ)) := by
  have ht := h.thrown hL
  have h8 := h.2.2.2.2.2.2.2.1
  have e45 : zup μ 1320 0 0 1320 45 = μ 1320 45 := zth (by decide)
  refine c_S_went (d1 := 2) (by omega) (k_S_isPerson (fun p q => ⟨⟨fun c => absurd c (by decide), fun _ => ⟨p, q⟩⟩, ?_⟩) (fun p => ⟨⟨fun _ => trivial, fun c => absurd rfl c⟩, ?_⟩))
  · rw [if_neg (by decide)]
    have e1 := h8 x p q
    refine c_M_went (d1 := 2) (by omega) ⟨fun c => ?_, fun c => k_M_isPerson (by omega) (fun _ _ => ⟨fun c => absurd c (by decide), fun _ => ⟨⟨p, q⟩, ?_⟩⟩) (fun c => absurd ⟨p, q⟩ c)⟩
    · rw [e45] at c
      rw [if_pos c] at e1
      show Q (μ 100 x) (-1) _
      rw [e1]
      exact hQ _ _ ht
    · rw [e45] at c
      rw [if_neg c] at e1
      show Q (μ 100 x) (zup μ 1320 0 0 1342 x) _
      rw [zth (by omega), e1]
      exact hQ _ _ ht
  · rw [if_pos rfl]
    exact c_M_went (d1 := 2) (by omega) ⟨fun c => hQ _ _ ht, fun c => k_M_isPerson (by omega) (fun a b => absurd ⟨a, b⟩ p) (fun _ => ⟨fun _ => hQ _ _ ht, fun c => absurd rfl c⟩)⟩
theorem zInv.tape (hL : zLRok LR) (h : zInv LR μ) {ν : zM} (h1 : ν 0 4 = ν 1320 7 ∧ 0 ≤ ν 0 4 ∧ ν 0 4 ≤ 400) (h2 : ∀ i : Int, 0 ≤ i → i < 400 → ν 89 i = ν 1325 i ∧ 0 ≤ ν 89 i ∧ ν 89 i < 256) (h3 : ∀ j : Int, j ≠ 4 → ν 0 j = μ 0 j) (h4 : ∀ j : Int, j ≠ 7 → j ≠ 0 → ν 1320 j = μ 1320 j) (h5 : ∀ b : Int, b ≠ 0 → b ≠ 89 → b ≠ 1320 → b ≠ 1325 → ν b = μ b) : zInv LR ν := by
  obtain ⟨a1, a2, a3, a4, a5, a6, a7, a8, a9⟩ := h
  refine ⟨h1, h2, by rw [h3 6 (by decide), h4 12 (by decide) (by decide)]; exact a3, by rw [h3 10 (by decide), h4 1 (by decide) (by decide)]; exact a4, ?_, ?_, fun k hk => ?_, ?_, a9.keep (fun b q1 q2 => h5 b (by omega) (by omega) (by omega) (by omega))⟩
  · rw [h5 103 (by decide) (by decide) (by decide) (by decide), h5 1321 (by decide) (by decide) (by decide) (by decide)]; exact a5
  · rw [h5 1322 (by decide) (by decide) (by decide) (by decide)]
    exact a6.keep hL (fun b q1 q2 => h5 b (by omega) (by omega) (by omega) (by omega))
  · rw [h5 88 (by decide) (by decide) (by decide) (by decide), h5 1324 (by decide) (by decide) (by decide) (by decide), h5 1323 (by decide) (by decide) (by decide) (by decide)]
    obtain ⟨q1, q2, q3⟩ := a7 k hk
    exact ⟨q1, q2, fun q => (q3 q).keep hL (fun b p1 p2 => h5 b (by omega) (by omega) (by omega) (by omega))⟩
  · rw [h5 100 (by decide) (by decide) (by decide) (by decide), h5 1342 (by decide) (by decide) (by decide) (by decide), h4 45 (by decide) (by decide)]
    exact a8
theorem p_end {x : Int} (hL : zLRok LR) (h : zInv LR μ) (hd : 3 ≤ d) (hQ : ∀ v ρ, zInv LR ρ → Q v v ρ) : zCi X true l d 0 0 y_S_end [(12, 0, 0), (0, 0, x)] μ (fun v ν => zCi X true l d 0 0 y_M_end [(13, 0, 1320), (0, 0, x)] ν (fun w ρ => Q v w ρ)) := by
  obtain ⟨t1, t2, t3⟩ := h.1
  refine c_S_end (d1 := 2) (by omega) (k_S_within (fun p q => ⟨fun _ => ?_, fun c => absurd c (by decide)⟩) (fun p => ⟨fun c => absurd rfl c, fun _ => ?_⟩))
  · have e7 : zup (zup μ 0 4 x) 1320 0 0 1320 7 = μ 1320 7 := by rw [zup_miss (by decide), zup_ne (by decide)]
    refine c_M_end ⟨fun c => absurd c (by omega), fun _ => ⟨fun _ => hQ _ _ ?_, fun c => absurd (show x ≤ zup (zup μ 0 4 x) 1320 0 0 1320 7 by rw [e7]; omega) c⟩⟩
    refine h.tape hL ⟨?_, ?_, ?_⟩ ?_ (fun j hj => ?_) (fun j hj h0 => ?_) (fun b h1 h2 h3 h4 => ?_)
    · rw [zup_hit, zup_ne (by decide), zup_ne (by decide), zup_hit]
    · rw [zup_ne (by decide), zup_ne (by decide), zup_hit]; exact p
    · rw [zup_ne (by decide), zup_ne (by decide), zup_hit]; omega
    · rw [zup_ne (by decide), zup_ne (by decide), zup_ne (by decide), zup_ne (by decide), zup_ne (by decide), zup_ne (by decide)]; exact h.2.1
    · rw [zup_ne (by decide), zup_ne (by decide), zup_miss (by omega)]
    · rw [zup_miss (by omega), zup_miss (by omega), zup_ne (by decide)]
    · rw [zup_ne h3, zup_ne h3, zup_ne h1]
  · have ht := h.thrown hL
    have e7 : zup μ 1320 0 0 1320 7 = μ 1320 7 := zup_miss (by decide)
    exact c_M_end ⟨fun c => hQ _ _ ht, fun c => ⟨fun c2 => absurd c2 (by rw [e7]; have : x ≤ μ 0 4 → False := fun q => p ⟨by omega, q⟩; omega), fun _ => hQ _ _ ht⟩⟩
end

/-! both sides, call by call: the same answer, and the state as before -/
theorem zl_people : ∀ p, p < 6 → zla (10 + p) = (22 + 6 * p, 0) := by decide
theorem zl_trait : ∀ i, i < 5 → ∀ w, w < 3 → zla (20 + 3 * i + w) = (3 + w, i) := by decide +kernel
theorem zl_paid : ∀ p, p < 6 → ∀ i, i < 5 → ∀ j, j < 2 → zla (40 + 10 * p + 2 * i + j) = (23 + 6 * p + j, i) := by decide +kernel
theorem zl_sees : ∀ p, p < 6 → ∀ w, w < 2 → ∀ i, i < 5 → zla (100 + 10 * p + 5 * w + i) = (25 + 6 * p + w, i) := by decide +kernel
theorem zl_ask : ∀ p, p < 6 → ∀ i, i < 5 → zla (160 + 5 * p + i) = (27 + 6 * p, i) := by decide +kernel
theorem zl_friend : ∀ i, i < 5 → zla (190 + i) = (6, i) := by decide
theorem zl_size : ∀ i, i < 12 → zla (200 + i) = (7, i) := by decide
theorem zl_weight : ∀ i, i < 4 → zla (212 + i) = (9, i) := by decide
section
variable {LR : zM → Int → (Int → Int) → Prop} {μ : zM} {X : zX} {l : Launch} {d : Nat} {Q : Int → Int → zM → Prop}
theorem zInv.setQ (hL : zLRok LR) (h : zInv LR μ) {k : Nat} {kI a s v : Int} (hI : kI = k) {ca cs : Nat} (hz : zla k = (ca, cs)) (hc9 : ca < 58) (hu : zU (μ 1322) k) (hc : k ≠ 3 ∧ k ≠ 4 ∧ k ≠ 5 ∧ k ≠ 6) (ha : a = 1 + ca) (hs : s = cs) (hB : zRB (zrw (μ 1322) k v)) (hQ : ∀ v ρ, zInv LR ρ → Q v v ρ) :
    Q (μ a s) ((zup (sok (zup μ a s v)) 1320 0 0) 1322 kI) (mok (zup (zup (sok (zup μ a s v)) 1320 0 0) 1322 kI v)) := by
  subst hI
  obtain ⟨i, e1, e2⟩ := h.set hL (k := k) (v := v) (a := a) (s := s) (by unfold zvl; rw [hz]; exact hc9) hu hc (by rw [hz]; exact ha) (by rw [hz]; exact hs) hB
  rw [e2, ← e1]
  exact hQ _ _ i
theorem zInv.use (h : zInv LR μ) : μ 1 0 = μ 1322 0 ∧ 0 ≤ μ 1322 0 ∧ μ 1322 0 < 6 := by
  have h1 := h.2.2.2.2.2.1.at' 0 (by unfold zvl; decide) (zU_free (by decide))
  exact ⟨h1, h.2.2.2.2.2.1.2.1.1⟩
theorem zInv.laws (h : zInv LR μ) : μ 1 7 = μ 1322 3 ∧ 0 ≤ μ 1322 3 ∧ μ 1322 3 ≤ 4 := by
  have h1 := h.2.2.2.2.2.1.at' 3 (by unfold zvl; decide) (zU_free (by decide))
  exact ⟨h1, h.2.2.2.2.2.1.2.1.2.2.2.1⟩
theorem sok_row {a s v : Int} (h : a ≠ 1322) : sok (zup μ a s v) 1322 = μ 1322 := by
  unfold sok
  rw [zup_ne (by decide), zup_ne (fun q => h q.symm)]
theorem sref_row {e k : Int} : sref μ e k 1322 = μ 1322 := by
  unfold sref
  rw [zup_ne (by decide), zup_ne (by decide)]
theorem p_use {x : Int} (hL : zLRok LR) (h : zInv LR μ) (hd : 3 ≤ d) (hQ : ∀ v ρ, zInv LR ρ → Q v v ρ) : zCi X true l d 0 0 y_S_use [(12, 0, 0), (0, 0, x)] μ (fun v ν => zCi X true l d 0 0 y_M_use [(13, 0, 1320), (0, 0, x)] ν (fun w ρ => Q v w ρ)) :=
  k_S_use hd (fun a b => k_M_use hd (fun _ _ => h.setQ hL (k := 0) (hz := rfl) rfl (by decide) (zU_free (by decide)) (by decide) rfl rfl (h.2.2.2.2.2.1.2.1.up (by omega)) hQ) (fun c => absurd ⟨a, b⟩ c)) (fun c => k_M_use hd (fun a b => absurd ⟨a, b⟩ c) (fun _ => hQ _ _ (h.ref hL (by omega))))
theorem p_people {x : Int} (hL : zLRok LR) (h : zInv LR μ) (hd : 3 ≤ d) (hQ : ∀ v ρ, zInv LR ρ → Q v v ρ) : zCi X true l d 0 0 y_S_people [(12, 0, 0), (0, 0, x)] μ (fun v ν => zCi X true l d 0 0 y_M_people [(13, 0, 1320), (0, 0, x)] ν (fun w ρ => Q v w ρ)) := by
  obtain ⟨e0, u0, u1⟩ := h.use
  obtain ⟨p, hp⟩ : ∃ p : Nat, μ 1322 0 = p := ⟨(μ 1322 0).toNat, by omega⟩
  refine k_S_people hd (by omega) (fun a b => k_M_people hd ?_ (fun _ _ => ?_) (fun c => absurd ⟨a, b⟩ c)) (fun c => k_M_people hd ?_ (fun a b => absurd ⟨a, b⟩ c) (fun _ => hQ _ _ (h.ref hL (by omega))))
  · rw [sok_row (by omega)]; omega
  · rw [sok_row (by omega)]
    exact h.setQ hL (k := 10 + p) (by omega) (zl_people p (by omega)) (by omega) (zU_free (by omega)) (by omega) (by omega) rfl (h.2.2.2.2.2.1.2.1.up (by omega)) hQ
  · rw [sref_row]; omega
theorem p_person {x w y : Int} (hL : zLRok LR) (h : zInv LR μ) (hd : 3 ≤ d) (hQ : ∀ v ρ, zInv LR ρ → Q v v ρ) : zCi X true l d 0 0 y_S_person [(12, 0, 0), (0, 0, x), (0, 0, w), (0, 0, y)] μ (fun v ν => zCi X true l d 0 0 y_M_person [(13, 0, 1320), (0, 0, x), (0, 0, w), (0, 0, y)] ν (fun w ρ => Q v w ρ)) := by
  refine k_S_person hd (fun a1 a2 a3 a4 a5 a6 => k_M_person hd (fun _ _ _ _ _ _ => ?_) (fun c => absurd ⟨a1, a2, a3, a4, a5, a6⟩ c)) (fun c => k_M_person hd (fun a1 a2 a3 a4 a5 a6 => absurd ⟨a1, a2, a3, a4, a5, a6⟩ c) (fun _ => hQ _ _ (h.ref hL (by omega))))
  obtain ⟨i, rfl⟩ : ∃ i : Nat, x = i := ⟨x.toNat, by omega⟩
  obtain ⟨j, rfl⟩ : ∃ j : Nat, w = j := ⟨w.toNat, by omega⟩
  have : y ≤ 9 := by split at a6 <;> omega
  exact h.setQ hL (k := 20 + 3 * i + j) (by omega) (zl_trait i (by omega) j (by omega)) (by omega) (zU_free (by omega)) (by omega) (by omega) rfl (h.2.2.2.2.2.1.2.1.up (by omega)) hQ
theorem p_sees {x w y : Int} (hL : zLRok LR) (h : zInv LR μ) (hd : 3 ≤ d) (hQ : ∀ v ρ, zInv LR ρ → Q v v ρ) : zCi X true l d 0 0 y_S_sees [(12, 0, 0), (0, 0, x), (0, 0, w), (0, 0, y)] μ (fun v ν => zCi X true l d 0 0 y_M_sees [(13, 0, 1320), (0, 0, x), (0, 0, w), (0, 0, y)] ν (fun w ρ => Q v w ρ)) := by
  obtain ⟨e0, u0, u1⟩ := h.use
  obtain ⟨p, hp⟩ : ∃ p : Nat, μ 1322 0 = p := ⟨(μ 1322 0).toNat, by omega⟩
  refine k_S_sees hd (by omega) (fun a1 a2 a3 a4 a5 a6 => k_M_sees hd ?_ (fun _ _ _ _ _ _ => ?_) (fun c => absurd ⟨a1, a2, a3, a4, a5, a6⟩ c)) (fun c => k_M_sees hd ?_ (fun a1 a2 a3 a4 a5 a6 => absurd ⟨a1, a2, a3, a4, a5, a6⟩ c) (fun _ => hQ _ _ (h.ref hL (by omega))))
  · rw [sok_row (by omega)]; omega
  · rw [sok_row (by omega)]
    obtain ⟨i, rfl⟩ : ∃ i : Nat, x = i := ⟨x.toNat, by omega⟩
    obtain ⟨j, rfl⟩ : ∃ j : Nat, w = j := ⟨w.toNat, by omega⟩
    exact h.setQ hL (k := 100 + 10 * p + 5 * j + i) (by omega) (zl_sees p (by omega) j (by omega) i (by omega)) (by omega) (zU_free (by omega)) (by omega) (by omega) rfl (h.2.2.2.2.2.1.2.1.up (by omega)) hQ
  · rw [sref_row]; omega
theorem p_ask {x y : Int} (hL : zLRok LR) (h : zInv LR μ) (hd : 3 ≤ d) (hQ : ∀ v ρ, zInv LR ρ → Q v v ρ) : zCi X true l d 0 0 y_S_ask [(12, 0, 0), (0, 0, x), (0, 0, y)] μ (fun v ν => zCi X true l d 0 0 y_M_ask [(13, 0, 1320), (0, 0, x), (0, 0, y)] ν (fun w ρ => Q v w ρ)) := by
  obtain ⟨e0, u0, u1⟩ := h.use
  obtain ⟨p, hp⟩ : ∃ p : Nat, μ 1322 0 = p := ⟨(μ 1322 0).toNat, by omega⟩
  refine k_S_ask hd (by omega) (fun a1 a2 a3 a4 => k_M_ask hd ?_ (fun _ _ _ _ => ?_) (fun c => absurd ⟨a1, a2, a3, a4⟩ c)) (fun c => k_M_ask hd ?_ (fun a1 a2 a3 a4 => absurd ⟨a1, a2, a3, a4⟩ c) (fun _ => hQ _ _ (h.ref hL (by omega))))
  · rw [sok_row (by omega)]; omega
  · rw [sok_row (by omega)]
    obtain ⟨i, rfl⟩ : ∃ i : Nat, x = i := ⟨x.toNat, by omega⟩
    exact h.setQ hL (k := 160 + 5 * p + i) (by omega) (zl_ask p (by omega) i (by omega)) (by omega) (zU_free (by omega)) (by omega) (by omega) rfl (h.2.2.2.2.2.1.2.1.up (by omega)) hQ
  · rw [sref_row]; omega
theorem p_lasts {x : Int} (hL : zLRok LR) (h : zInv LR μ) (hd : 3 ≤ d) (hQ : ∀ v ρ, zInv LR ρ → Q v v ρ) : zCi X true l d 0 0 y_S_lasts [(12, 0, 0), (0, 0, x)] μ (fun v ν => zCi X true l d 0 0 y_M_lasts [(13, 0, 1320), (0, 0, x)] ν (fun w ρ => Q v w ρ)) :=
  k_S_lasts hd (fun a b => k_M_lasts hd (fun _ _ => h.setQ hL (k := 2) (hz := rfl) rfl (by decide) (zU_free (by decide)) (by decide) rfl rfl (h.2.2.2.2.2.1.2.1.up (by omega)) hQ) (fun c => absurd ⟨a, b⟩ c)) (fun c => k_M_lasts hd (fun a b => absurd ⟨a, b⟩ c) (fun _ => hQ _ _ (h.ref hL (by omega))))
theorem p_size {x y : Int} (hL : zLRok LR) (h : zInv LR μ) (hd : 3 ≤ d) (hQ : ∀ v ρ, zInv LR ρ → Q v v ρ) : zCi X true l d 0 0 y_S_size [(12, 0, 0), (0, 0, x), (0, 0, y)] μ (fun v ν => zCi X true l d 0 0 y_M_size [(13, 0, 1320), (0, 0, x), (0, 0, y)] ν (fun w ρ => Q v w ρ)) := by
  refine k_S_size hd (fun a1 a2 a3 a4 => k_M_size hd (fun _ _ _ _ => ?_) (fun c => absurd ⟨a1, a2, a3, a4⟩ c)) (fun c => k_M_size hd (fun a1 a2 a3 a4 => absurd ⟨a1, a2, a3, a4⟩ c) (fun _ => hQ _ _ (h.ref hL (by omega))))
  obtain ⟨i, rfl⟩ : ∃ i : Nat, x = i := ⟨x.toNat, by omega⟩
  exact h.setQ hL (k := 200 + i) (by omega) (zl_size i (by omega)) (by omega) (zU_free (by omega)) (by omega) (by omega) rfl (h.2.2.2.2.2.1.2.1.up (by omega)) hQ
theorem p_force {x : Int} (hL : zLRok LR) (h : zInv LR μ) (hd : 3 ≤ d) (hQ : ∀ v ρ, zInv LR ρ → Q v v ρ) : zCi X true l d 0 0 y_S_force [(12, 0, 0), (0, 0, x)] μ (fun v ν => zCi X true l d 0 0 y_M_force [(13, 0, 1320), (0, 0, x)] ν (fun w ρ => Q v w ρ)) := by
  obtain ⟨e0, u0, u1⟩ := h.laws
  refine k_S_force hd (by omega) (fun a b => k_M_force hd ?_ (fun _ _ => ?_) (fun c => absurd ?_ c)) (fun c => k_M_force hd ?_ (fun a b => absurd ?_ c) (fun _ => hQ _ _ (h.ref hL (by omega))))
  · rw [sok_row (by decide)]; omega
  · exact h.setQ hL (k := 1) (hz := rfl) rfl (by decide) (zU_free (by decide)) (by decide) rfl rfl (h.2.2.2.2.2.1.2.1.up (by omega)) hQ
  · rw [sok_row (by decide)]; omega
  · rw [sref_row]; omega
  · rw [sref_row] at b; omega
theorem p_weigh {x y : Int} (hL : zLRok LR) (h : zInv LR μ) (hd : 3 ≤ d) (hQ : ∀ v ρ, zInv LR ρ → Q v v ρ) : zCi X true l d 0 0 y_S_weigh [(12, 0, 0), (0, 0, x), (0, 0, y)] μ (fun v ν => zCi X true l d 0 0 y_M_weigh [(13, 0, 1320), (0, 0, x), (0, 0, y)] ν (fun w ρ => Q v w ρ)) := by
  obtain ⟨e0, u0, u1⟩ := h.laws
  refine k_S_weigh hd (by omega) (fun a1 a2 a3 a4 => k_M_weigh hd ?_ (fun _ _ _ _ => ?_) (fun _ _ c => absurd ?_ c) (fun c => absurd ⟨a1, a2⟩ c)) (fun a1 a2 c => k_M_weigh hd ?_ (fun _ _ b1 b2 => absurd ?_ c) (fun _ _ _ => hQ _ _ (h.ref hL (by omega))) (fun c => absurd ⟨a1, a2⟩ c)) (fun c => k_M_weigh hd ?_ (fun b1 b2 _ _ => absurd ⟨b1, b2⟩ c) (fun b1 b2 _ => absurd ⟨b1, b2⟩ c) (fun _ => hQ _ _ (h.ref hL (by omega))))
  · rw [sok_row (by decide)]; omega
  · obtain ⟨i, rfl⟩ : ∃ i : Nat, x = i := ⟨x.toNat, by omega⟩
    exact h.setQ hL (k := 212 + i) (by omega) (zl_weight i (by omega)) (by omega) ⟨fun _ _ => by omega, fun q => by omega, fun q => by omega, fun q => by omega⟩ (by omega) (by omega) rfl (h.2.2.2.2.2.1.2.1.up (by omega)) hQ
  · rw [sok_row (by decide)]; omega
  · rw [sref_row]; omega
  · rw [sref_row] at b2; omega
  · rw [sref_row]; omega
end

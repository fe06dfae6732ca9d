/-! what holds between two calls of the law. LR: how a LAW of the class (at a) and one of the reference (κ) belong together; all that is used of it here is zLRok -/
def zLRok (LR : zM → Int → (Int → Int) → Prop) : Prop :=
  (∀ (μ ν : zM) (a : Int) (κ : Int → Int), (∀ b : Int, a ≤ b → b < a + 7 → ν b = μ b) → LR μ a κ → LR ν a κ) ∧
  (∀ (μ : zM) (a : Int) (κ κ' : Int → Int), (∀ i : Int, 0 ≤ i → i < 900 → κ' i = κ i) → LR μ a κ → LR μ a κ') ∧
  (∀ (μ : zM) (a : Int) (κ : Int → Int), LR μ a κ → 0 ≤ μ a 0 ∧ μ a 0 ≤ 12 ∧ 0 ≤ μ a 5 ∧ μ a 5 ≤ 400 ∧ ∀ c : Int, 0 ≤ c → c < μ a 0 → μ (a + 1) c = 0 ∨ μ (a + 1) c = 1) ∧
  (∀ (μ ν : zM) (a b : Int) (κ : Int → Int), ν b 0 = μ a 0 → ν b 5 = μ a 5 → (∀ k c : Int, 1 ≤ k → k ≤ 4 → 0 ≤ c → c < μ a 0 → ν (b + k) c = μ (a + k) c) → (∀ k c : Int, 5 ≤ k → k ≤ 6 → 0 ≤ c → c < μ a 5 → ν (b + k) c = μ (a + k) c) → LR μ a κ → LR ν b κ)
def zRoom (LR : zM → Int → (Int → Int) → Prop) (μ : zM) (r : Int) (ρ : Int → Int) : Prop :=
  zRR (zU ρ) μ r ρ ∧ zRB ρ ∧ (∀ n : Int, 0 ≤ n → n < ρ 3 → LR μ (r + 58 + 7 * n) (fun i => ρ (480 + 900 * n + i))) ∧ (μ (r + 10) 1 = 8 ∧ μ (r + 14) 1 = 40 ∧ μ (r + 18) 1 = 40)
/-- a long number of the class at a, with room for L limbs -/
def zBig (μ : zM) (a : Int) (L : Nat) : Prop := μ a 0 = L ∧ 0 ≤ μ a 2 ∧ μ a 2 ≤ L ∧ (∀ i : Int, 0 ≤ i → i < L → 0 ≤ μ (a + 1) i ∧ μ (a + 1) i < 1000000000 ∧ (μ a 2 ≤ i → μ (a + 1) i = 0)) ∧ (0 < μ a 2 → μ (a + 1) (μ a 2 - 1) ≠ 0)
def zBigs0 (μ : zM) : Prop := (∀ s : Int, 0 ≤ s → s < 243 → zBig μ (134 + 4 * s) 15 ∧ zBig μ (136 + 4 * s) 15) ∧ (zBig μ 124 15 ∧ zBig μ 126 15 ∧ zBig μ 128 15 ∧ zBig μ 130 15 ∧ zBig μ 132 15) ∧
  (∀ n : Int, 0 ≤ n → n < 4 → zBig μ (1116 + 8 * n) 170 ∧ zBig μ (1118 + 8 * n) 170 ∧ zBig μ (1120 + 8 * n) 15 ∧ zBig μ (1122 + 8 * n) 15) ∧ zBig μ 1110 170 ∧ zBig μ 1112 170 ∧ zBig μ 1114 170
/-- and the widths of the rows of the two images -/
def zBigs (μ : zM) : Prop := zBigs0 μ ∧ ∀ k : Int, k = 0 ∨ k = 1 → μ (1148 + 86 * k + 10) 1 = 8 ∧ μ (1148 + 86 * k + 14) 1 = 40 ∧ μ (1148 + 86 * k + 18) 1 = 40
theorem zBig.keep {μ ν : zM} {a : Int} {L : Nat} (h : zBig μ a L) (h1 : ν a = μ a) (h2 : ν (a + 1) = μ (a + 1)) : zBig ν a L := by
  unfold zBig
  rw [h1, h2]
  exact h
theorem zBigs0.keep {μ ν : zM} (h : zBigs0 μ) (hk : ∀ b : Int, 104 ≤ b → b < 1148 → ν b = μ b) : zBigs0 ν := by
  obtain ⟨h1, ⟨h2, h3, h4, h5, h6⟩, h7, h8, h9, h10⟩ := h
  refine ⟨fun s a b => ⟨(h1 s a b).1.keep (hk _ (by omega) (by omega)) (hk _ (by omega) (by omega)), (h1 s a b).2.keep (hk _ (by omega) (by omega)) (hk _ (by omega) (by omega))⟩, ⟨h2.keep (hk _ (by omega) (by omega)) (hk _ (by omega) (by omega)), h3.keep (hk _ (by omega) (by omega)) (hk _ (by omega) (by omega)), h4.keep (hk _ (by omega) (by omega)) (hk _ (by omega) (by omega)), h5.keep (hk _ (by omega) (by omega)) (hk _ (by omega) (by omega)), h6.keep (hk _ (by omega) (by omega)) (hk _ (by omega) (by omega))⟩, fun n a b => ?_, h8.keep (hk _ (by omega) (by omega)) (hk _ (by omega) (by omega)), h9.keep (hk _ (by omega) (by omega)) (hk _ (by omega) (by omega)), h10.keep (hk _ (by omega) (by omega)) (hk _ (by omega) (by omega))⟩
  obtain ⟨q1, q2, q3, q4⟩ := h7 n a b
  exact ⟨q1.keep (hk _ (by omega) (by omega)) (hk _ (by omega) (by omega)), q2.keep (hk _ (by omega) (by omega)) (hk _ (by omega) (by omega)), q3.keep (hk _ (by omega) (by omega)) (hk _ (by omega) (by omega)), q4.keep (hk _ (by omega) (by omega)) (hk _ (by omega) (by omega))⟩
theorem zBigs.keep {μ ν : zM} (h : zBigs μ) (hk : ∀ b : Int, 104 ≤ b → b < 1320 → ν b = μ b) : zBigs ν := by
  refine ⟨h.1.keep (fun b a c => hk b a (by omega)), fun k a => ?_⟩
  rw [hk _ (by omega) (by omega), hk _ (by omega) (by omega), hk _ (by omega) (by omega)]
  exact h.2 k a
/-- the state as it shows -/
def zInv (LR : zM → Int → (Int → Int) → Prop) (μ : zM) : Prop :=
  (μ 0 4 = μ 1320 7 ∧ 0 ≤ μ 0 4 ∧ μ 0 4 ≤ 400) ∧ (∀ i : Int, 0 ≤ i → i < 400 → μ 89 i = μ 1325 i ∧ 0 ≤ μ 89 i ∧ μ 89 i < 256) ∧ μ 0 6 = μ 1320 12 ∧ μ 0 10 = μ 1320 1 ∧
  (μ 103 0 = μ 1321 1 ∧ μ 103 1 = μ 1321 2 ∧ μ 103 2 = μ 1321 5 ∧ μ 103 3 = μ 1321 6) ∧ zRoom LR μ 1 (μ 1322) ∧
  (∀ k : Int, k = 0 ∨ k = 1 → μ 88 k = μ 1324 k ∧ (μ 88 k = 0 ∨ μ 88 k = 1) ∧ (μ 88 k = 1 → zRoom LR μ (1148 + 86 * k) (fun i => μ 1323 (4080 * k + i)))) ∧
  (∀ p : Int, 0 ≤ p → p < 5 → μ 100 p = if μ 1320 45 = -1 then -1 else μ 1342 p) ∧ zBigs μ
theorem zla_r1 : ∀ i, i < 480 → ¬ (zla i = (10, 1) ∨ zla i = (14, 1) ∨ zla i = (18, 1)) := by decide +kernel
section
variable {LR : zM → Int → (Int → Int) → Prop} {μ ν : zM} {r : Int} {ρ : Int → Int}
theorem zRoom.keep (hL : zLRok LR) (h : zRoom LR μ r ρ) (hk : ∀ b : Int, r ≤ b → b < r + 86 → ν b = μ b) : zRoom LR ν r ρ := by
  obtain ⟨h1, h2, h3, h4, h5, h6⟩ := h
  refine ⟨h1.keep (fun b a c => hk b a (by omega)), h2, fun n a b => hL.1 μ ν _ _ (fun c q1 q2 => hk c (by omega) (by have := h2.2.2.2.1; omega)) (h3 n a b), ?_, ?_, ?_⟩
  · rw [hk _ (by omega) (by omega)]; exact h4
  · rw [hk _ (by omega) (by omega)]; exact h5
  · rw [hk _ (by omega) (by omega)]; exact h6
theorem zRoom.at' (h : zRoom LR μ r ρ) (i : Nat) (hi : zvl i) (hu : zU ρ i) : μ (r + (zla i).1) (zla i).2 = ρ i := h.1 i hi hu
theorem zU_free {i : Nat} (h : i < 212) : zU ρ i := ⟨fun a => by omega, fun a => by omega, fun a => by omega, fun a => by omega⟩
theorem zup_miss {b j a i v : Int} (h : ¬ (b = a ∧ j = i)) : zup μ a i v b j = μ b j := by
  unfold zup
  rw [if_neg h]
theorem zup_hit {a i v : Int} : zup μ a i v a i = v := by
  unfold zup
  rw [if_pos ⟨rfl, rfl⟩]
theorem zRoom.up (hL : zLRok LR) (h : zRoom LR μ r ρ) {k : Nat} (hk : zvl k) (hu : zU ρ k) (hc : k ≠ 3 ∧ k ≠ 4 ∧ k ≠ 5 ∧ k ≠ 6) {v a s : Int} (ha : a = r + (zla k).1) (hs : s = (zla k).2) (hB : zRB (zrw ρ k v)) : zRoom LR (zup μ a s v) r (zrw ρ k v) := by
  obtain ⟨h1, h2, h3, h4, h5, h6⟩ := h
  have ex : ∀ j : Int, j ≠ (k : Int) → zrw ρ k v j = ρ j := fun j hj => by unfold zrw; rw [if_neg hj]
  have e3 := ex 3 (by omega)
  have e4 := ex 4 (by omega)
  have e5 := ex 5 (by omega)
  have e6 := ex 6 (by omega)
  have hlt := zvl_lt hk
  have hm : ∀ c : Nat, c = 10 ∨ c = 14 ∨ c = 18 → ¬ (r + (c : Int) = a ∧ (1 : Int) = s) := fun c hc q => by
    refine zla_r1 k hlt ?_
    have q1 : (zla k).1 = c := by omega
    have q2 : (zla k).2 = 1 := by omega
    have e : zla k = (c, 1) := by rw [← q1, ← q2]
    rw [e]
    rcases hc with rfl | rfl | rfl <;> simp
  refine ⟨(h1.up hk ha hs).sub (fun i hi hv => ?_), hB, fun n a' b' => ?_, ?_, ?_, ?_⟩
  · refine Or.inl ?_
    unfold zU at hv ⊢
    rw [e3, e4, e5, e6] at hv
    exact hv
  · rw [e3] at b'
    refine hL.2.1 _ _ _ _ (fun i q1 q2 => ex _ (by omega)) (hL.1 μ _ _ _ (fun c q1 q2 => zup_ne ?_) (h3 n a' b'))
    unfold zvl at hk
    omega
  · exact (zup_miss (hm 10 (by simp))).trans h4
  · exact (zup_miss (hm 14 (by simp))).trans h5
  · exact (zup_miss (hm 18 (by simp))).trans h6
/-- a call that changes the room in use, refusals and answers alone -/
theorem zInv.step (hL : zLRok LR) (h : zInv LR μ) (h1 : ν 0 4 = μ 0 4 ∧ ν 0 6 = μ 0 6 ∧ ν 1320 7 = μ 1320 7 ∧ ν 1320 12 = μ 1320 12 ∧ ν 1320 45 = μ 1320 45) (h2 : ν 0 10 = ν 1320 1) (h3 : ν 103 0 = ν 1321 1 ∧ ν 103 1 = ν 1321 2 ∧ ν 103 2 = ν 1321 5 ∧ ν 103 3 = ν 1321 6)
    (h4 : ν 89 = μ 89 ∧ ν 1325 = μ 1325 ∧ ν 88 = μ 88 ∧ ν 1324 = μ 1324 ∧ ν 1323 = μ 1323 ∧ ν 100 = μ 100 ∧ ν 1342 = μ 1342) (h5 : ∀ b : Int, 1148 ≤ b → b < 1320 → ν b = μ b) (h6 : zRoom LR ν 1 (ν 1322)) (h7 : zBigs ν) : zInv LR ν := by
  obtain ⟨a1, a2, a3, a4, a5, a6, a7, a8, a9⟩ := h
  obtain ⟨b1, b2, b3, b4, b5⟩ := h1
  obtain ⟨c1, c2, c3, c4, c5, c6, c7⟩ := h4
  refine ⟨by rw [b1, b3]; exact a1, by rw [c1, c2]; exact a2, by rw [b2, b4]; exact a3, h2, h3, h6, fun k hk => ?_, by rw [c6, c7, b5]; exact a8, h7⟩
  rw [c3, c4, c5]
  obtain ⟨q1, q2, q3⟩ := a7 k hk
  exact ⟨q1, q2, fun q => (q3 q).keep hL (fun b p1 p2 => h5 b (by omega) (by omega))⟩
end

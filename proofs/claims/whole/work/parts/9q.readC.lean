/-! law: the class's reader, by the grammar -/
def zFb (μ ν : zM) : Prop := (∀ b : Int, b ≠ 90 → b ≠ 92 → b ≠ 97 → b ≠ 98 → ν b = μ b) ∧ (∀ j : Int, ¬ (2 ≤ j ∧ j ≤ 5) → ν 90 j = μ 90 j) ∧ ∀ j : Int, j ≠ 5 → ν 92 j = μ 92 j
def zFc (μ ν : zM) (s : Int) : Prop := zFb μ ν ∧ ∀ i : Int, i < s → ν 97 i = μ 97 i ∧ ν 98 i = μ 98 i
theorem zFb.refl {μ : zM} : zFb μ μ := ⟨fun _ _ _ _ _ => rfl, fun _ _ => rfl, fun _ _ => rfl⟩
theorem zFb.trans {μ ν ρ : zM} (h : zFb μ ν) (k : zFb ν ρ) : zFb μ ρ := ⟨fun b h1 h2 h3 h4 => (k.1 b h1 h2 h3 h4).trans (h.1 b h1 h2 h3 h4), fun j hj => (k.2.1 j hj).trans (h.2.1 j hj), fun j hj => (k.2.2 j hj).trans (h.2.2 j hj)⟩
theorem zFc.trans {μ ν ρ : zM} {s s' : Int} (h : zFc μ ν s) (k : zFc ν ρ s') (hs : s ≤ s') : zFc μ ρ s := ⟨h.1.trans k.1, fun i hi => ⟨((k.2 i (by omega)).1).trans (h.2 i hi).1, ((k.2 i (by omega)).2).trans (h.2 i hi).2⟩⟩
theorem zFc.refl {μ : zM} {s : Int} : zFc μ μ s := ⟨zFb.refl, fun _ _ => ⟨rfl, rfl⟩⟩
def zTl (K A : Int → Int) (s s' : Int) (w : zSem) (D : Nat) : Prop := ∀ F, zGF F → zS5 K A F s s' D (w F)
theorem zTl.keep {K A K' A' : Int → Int} {s s' : Int} {w : zSem} {D : Nat} (h : zTl K A s s' w D) (e : ∀ i : Int, s ≤ i → i < s' → K' i = K i ∧ A' i = A i) : zTl K' A' s s' w D := fun F hF => (h F hF).congr e (fun _ _ _ => rfl)
def zGd (md : Nat) (w : zSem) : Prop := ∀ F v, zGF F → w F = some v → (md < 5 → zb9 v) ∧ (5 ≤ md → v = 0 ∨ v = 1)
theorem zGd.b9 {md : Nat} {w : zSem} (h : zGd md w) {F : Int → Int} (hF : zGF F) : ∀ v, w F = some v → zb9 v := fun v e => by
  have := h F v hF e
  by_cases c : md < 5
  · exact this.1 c
  · have := this.2 (by omega)
    unfold zb9; omega
def zdc (md : Nat) : Nat := if md = 0 then 10 else if md < 3 then 11 else if md < 5 then 12 else if md = 5 then 13 else if md < 8 then 14 else 15
def zym (md : Nat) : zMt := if md = 0 then y_Reader_readPart else if md = 1 then y_Reader_readTerm else if md = 3 then y_Reader_readSum else if md = 5 then y_Reader_readPlain else if md = 6 then y_Reader_readBoth else y_Reader_readTest
section
variable {X : zX} {l : Launch} {μ : zM} {T : Int → Int} {L : Nat}
theorem k_put {d s : Nat} {κ b : Int} {Q : zM → Prop} (hs : μ 92 5 = s) (s4 : s < 400) (hQ : ∀ ν, zFc μ ν s → ν 90 = μ 90 → ν 91 = μ 91 → ν 97 s = κ → ν 98 s = b → ν 92 5 = ((s + 1 : Nat) : Int) → Q ν) : zCv X true l d 0 0 y_Law_put [(3, 0, 92), (0, 0, κ), (0, 0, b)] μ Q := by
  refine c_Law_put (a0 := 92) ⟨fun c => absurd c (by omega), fun _ => ⟨fun _ => ⟨by omega, ?_⟩, fun c => absurd (by omega) c⟩⟩
  simp only [Int.reduceAdd]
  have e1 : zup μ 97 (μ 92 5) κ 92 5 = s := by rw [zup_ne (by decide)]; exact hs
  rw [e1]
  refine ⟨by omega, ?_⟩
  rw [hs] at e1 ⊢
  have e2 : zup (zup μ 97 s κ) 98 s b 92 5 = s := by rw [zup_ne (by decide)]; exact e1
  rw [e2, zw_of (by omega) (by omega)]
  refine hQ _ ⟨⟨fun q h1 h2 h3 h4 => by rw [zup_ne h2, zup_ne h4, zup_ne h3], fun j hj => by rw [zup_ne (by decide), zup_ne (by decide), zup_ne (by decide)], fun j hj => by rw [zup_miss (by omega), zup_ne (by decide), zup_ne (by decide)]⟩, fun i hi => ⟨by rw [zup_ne (by decide), zup_ne (by decide), zup_miss (by omega)], by rw [zup_ne (by decide), zup_miss (by omega), zup_ne (by decide)]⟩⟩ (by rw [zup_ne (by decide), zup_ne (by decide), zup_ne (by decide)]) (by rw [zup_ne (by decide), zup_ne (by decide), zup_ne (by decide)]) (by rw [zup_ne (by decide), zup_ne (by decide), zup_hit]) (by rw [zup_ne (by decide), zup_hit]) (by rw [zup_hit]; rfl)
theorem k_put0 {d : Nat} {κ b : Int} {Q : zM → Prop} (hQ : ∀ ν, zFb μ ν → ν 90 = μ 90 → ν 91 = μ 91 → Q ν) : zCv X true l d 0 0 y_Law_put [(3, 0, 92), (0, 0, κ), (0, 0, b)] μ Q := by
  by_cases c : 0 ≤ μ 92 5 ∧ μ 92 5 < 400
  · obtain ⟨s, hs⟩ : ∃ s : Nat, μ 92 5 = s := ⟨(μ 92 5).toNat, by omega⟩
    exact k_put hs (by omega) (fun ν f e0 e1 _ _ _ => hQ ν f.1 e0 e1)
  · exact c_Law_put (a0 := 92) ⟨fun _ => hQ μ zFb.refl rfl rfl, fun _ => ⟨fun _ => absurd ⟨by omega, by omega⟩ c, fun _ => hQ μ zFb.refl rfl rfl⟩⟩
theorem k_aim {d p s : Nat} {Q : zM → Prop} (hs : μ 92 5 = s) (p4 : p < 400) (hQ : Q (zup μ 98 p s)) : zCv X true l d 0 0 y_Law_aim [(3, 0, 92), (0, 0, (p : Int))] μ Q := by
  refine c_Law_aim (a0 := 92) ⟨fun c => absurd c (by omega), fun _ => ⟨fun c => absurd c (by omega), fun _ => ⟨by omega, ?_⟩⟩⟩
  simp only [Int.reduceAdd]
  rw [hs]
  exact hQ
theorem k_aim0 {d : Nat} {p : Int} {Q : zM → Prop} (hQ : ∀ ν, zFb μ ν → ν 90 = μ 90 → ν 91 = μ 91 → Q ν) : zCv X true l d 0 0 y_Law_aim [(3, 0, 92), (0, 0, p)] μ Q := by
  refine c_Law_aim (a0 := 92) ⟨fun _ => hQ μ zFb.refl rfl rfl, fun _ => ⟨fun _ => hQ μ zFb.refl rfl rfl, fun _ => ⟨by omega, ?_⟩⟩⟩
  simp only [Int.reduceAdd]
  exact hQ _ ⟨fun b _ _ _ h4 => zup_ne h4, fun j _ => by rw [zup_ne (by decide)], fun j _ => by rw [zup_ne (by decide)]⟩ (zup_ne (by decide)) (zup_ne (by decide))
theorem zTc.k90 {ν : zM} {q : Nat} (h : zTc μ T L q) (h0 : ν 90 = μ 90) (h1 : ν 91 = μ 91) : zTc ν T L q := h.keep h1 (fun j _ _ => by rw [h0])
/-- advance, with the rest -/
theorem k_adv {d q : Nat} {Q : zM → Prop} (hd : 1 ≤ d) (h : zTc μ T L q) (hQ : ∀ ν, zTc ν T L (znx T L q) → (∀ b : Int, b ≠ 90 → ν b = μ b) → ν 90 5 = μ 90 5 → zFb μ ν → Q ν) : zCv X true l d 0 0 y_Reader_advance [(5, 0, 90)] μ Q :=
  k_advance hd h (fun ν n1 n2 n3 => hQ ν n3 n1 (n2 5 (by decide) (by decide) (by decide)) ⟨fun b h1 _ _ _ => n1 b h1, fun j hj => n2 j (by omega) (by omega) (by omega), fun j _ => by rw [n1 92 (by decide)]⟩)
end

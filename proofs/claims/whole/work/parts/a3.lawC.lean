/-! law: the class keeps the law -/
section
variable {X : zX} {l : Launch} {d : Nat} {μ : zM} {T : Int → Int} {L : Nat}
/-- the law at a is the draft -/
def zDr (ν : zM) (a : Int) : Prop := ν a 0 = ν 92 0 ∧ ν a 5 = ν 92 5 ∧ (∀ k c : Int, 1 ≤ k → k ≤ 4 → 0 ≤ c → c < ν 92 0 → ν (a + k) c = ν (92 + k) c) ∧ ∀ k c : Int, 5 ≤ k → k ≤ 6 → 0 ≤ c → c < ν 92 5 → ν (a + k) c = ν (92 + k) c
theorem k_becomeDraft {a : Int} {m s : Nat} {Q : zM → Prop} (ha : a + 7 ≤ 92) (h0 : μ 92 0 = m) (m12 : m ≤ 12) (h5 : μ 92 5 = s) (s4 : s ≤ 400) (hg : ∀ c : Int, 0 ≤ c → c < m → μ 93 c = 0 ∨ μ 93 c = 1) (hQ : ∀ ν, (∀ b : Int, ¬ (a ≤ b ∧ b < a + 7) → ν b = μ b) → zDr ν a → Q ν) : zCv X true l d 0 0 y_Law_become [(3, 0, a), (3, 0, 92)] μ Q := by
  refine c_Law_become ?_
  have e5 : zup μ a 0 (μ 92 0) 92 5 = s := by rw [zup_ne (by omega)]; exact h5
  rw [e5, h0]
  have lp2 : ∀ k i : Nat, i + k = s → ∀ ν : zM, (∀ b : Int, ¬ (a ≤ b ∧ b < a + 7) → ν b = μ b) → ν a 0 = m → ν a 5 = s → (∀ k c : Int, 1 ≤ k → k ≤ 4 → 0 ≤ c → c < m → ν (a + k) c = μ (92 + k) c) → (∀ k c : Int, 5 ≤ k → k ≤ 6 → 0 ≤ c → c < i → ν (a + k) c = μ (92 + k) c) → zE X true l d 0 0 y_Law_become 88 [some (3, 0, a), some (3, 0, 92), some (0, 0, (i : Int))] [] ν (zrn Q) := by
    intro k
    induction k with
    | zero =>
      intro i hi ν r1 r2 r3 r4 r5
      obtain rfl : i = s := by omega
      refine s_Law_become_88 ⟨fun _ => hQ ν r1 ?_, fun z => absurd (by rw [r3]; omega) z⟩
      unfold zDr
      rw [r1 92 (by omega), h0, h5]
      exact ⟨r2, r3, fun k c k1 k2 c0 c1 => by rw [r1 (92 + k) (by omega)]; exact r4 k c k1 k2 c0 c1, fun k c k1 k2 c0 c1 => by rw [r1 (92 + k) (by omega)]; exact r5 k c k1 k2 c0 c1⟩
    | succ k ih =>
      intro i hi ν r1 r2 r3 r4 r5
      refine s_Law_become_88 ⟨fun z => absurd z (by rw [r3]; omega), fun _ => ⟨fun z => absurd z (by omega), fun _ => ⟨by omega, by omega, by omega, by omega, ?_⟩⟩⟩
      rw [zw_of (by omega) (by omega)]
      have e6 : zup ν (a + 5) i (ν (92 + 5) i) (92 + 6) i = μ (92 + 6) i := by rw [zup_ne (by omega), r1 (92 + 6) (by omega)]
      have e7 : ν (92 + 5) i = μ (92 + 5) i := by rw [r1 (92 + 5) (by omega)]
      rw [e6, e7]
      refine ih (i + 1) (by omega) _ (fun b hb => by rw [zup_ne (by omega), zup_ne (by omega)]; exact r1 b hb) (by rw [zup_ne (by omega), zup_ne (by omega)]; exact r2) (by rw [zup_ne (by omega), zup_ne (by omega)]; exact r3) (fun k c k1 k2 c0 c1 => by rw [zup_ne (by omega), zup_ne (by omega)]; exact r4 k c k1 k2 c0 c1) (fun k c k1 k2 c0 c1 => ?_)
      by_cases e : c = i
      · subst e
        obtain rfl | rfl : k = 5 ∨ k = 6 := by omega
        · rw [zup_ne (by omega), zup_hit]
        · rw [zup_hit]
      · rw [zup_miss (fun z => e z.2), zup_miss (fun z => e z.2)]
        exact r5 k c k1 k2 c0 (by omega)
  have lp1 : ∀ k i : Nat, i + k = m → ∀ ν : zM, (∀ b : Int, ¬ (a ≤ b ∧ b < a + 7) → ν b = μ b) → ν a 0 = m → ν a 5 = s → (∀ k c : Int, 1 ≤ k → k ≤ 4 → 0 ≤ c → c < i → ν (a + k) c = μ (92 + k) c) → zE X true l d 0 0 y_Law_become 18 [some (3, 0, a), some (3, 0, 92), some (0, 0, (i : Int))] [] ν (zrn Q) := by
    intro k
    induction k with
    | zero =>
      intro i hi ν r1 r2 r3 r4
      obtain rfl : i = m := by omega
      exact s_Law_become_18 ⟨fun _ => lp2 s 0 (by omega) ν r1 r2 r3 r4 (fun k c _ _ c0 c1 => by omega), fun z => absurd (by rw [r2]; omega) z⟩
    | succ k ih =>
      intro i hi ν r1 r2 r3 r4
      have e1 : ν (92 + 1) i = μ (92 + 1) i := by rw [r1 (92 + 1) (by omega)]
      have e2 : zup ν (a + 1) i (μ (92 + 1) i) (92 + 2) i = μ (92 + 2) i := by rw [zup_ne (by omega), r1 (92 + 2) (by omega)]
      have e3 : zup (zup ν (a + 1) i (μ (92 + 1) i)) (a + 2) i (μ (92 + 2) i) (92 + 3) i = μ (92 + 3) i := by rw [zup_ne (by omega), zup_ne (by omega), r1 (92 + 3) (by omega)]
      have e4 : zup (zup (zup ν (a + 1) i (μ (92 + 1) i)) (a + 2) i (μ (92 + 2) i)) (a + 3) i (μ (92 + 3) i) (92 + 4) i = μ (92 + 4) i := by rw [zup_ne (by omega), zup_ne (by omega), zup_ne (by omega), r1 (92 + 4) (by omega)]
      refine s_Law_become_18 ⟨fun z => absurd z (by rw [r2]; omega), fun _ => ⟨fun z => absurd z (by omega), fun _ => ?_⟩⟩
      rw [e1, e2, e3, e4, zw_of (by omega) (by omega)]
      refine ⟨by omega, hg i (by omega) (by omega), by omega, by omega, by omega, by omega, by omega, by omega, by omega, ?_⟩
      refine ih (i + 1) (by omega) _ (fun b hb => by rw [zup_ne (by omega), zup_ne (by omega), zup_ne (by omega), zup_ne (by omega)]; exact r1 b hb) (by rw [zup_ne (by omega), zup_ne (by omega), zup_ne (by omega), zup_ne (by omega)]; exact r2) (by rw [zup_ne (by omega), zup_ne (by omega), zup_ne (by omega), zup_ne (by omega)]; exact r3) (fun k c k1 k2 c0 c1 => ?_)
      by_cases e : c = i
      · subst e
        obtain rfl | rfl | rfl | rfl : k = 1 ∨ k = 2 ∨ k = 3 ∨ k = 4 := by omega
        · rw [zup_ne (by omega), zup_ne (by omega), zup_ne (by omega), zup_hit]
        · rw [zup_ne (by omega), zup_ne (by omega), zup_hit]
        · rw [zup_ne (by omega), zup_hit]
        · rw [zup_hit]
      · rw [zup_miss (fun z => e z.2), zup_miss (fun z => e z.2), zup_miss (fun z => e z.2), zup_miss (fun z => e z.2)]
        exact r4 k c k1 k2 c0 (by omega)
  refine lp1 m 0 (by omega) _ (fun b hb => by rw [zup_ne (by omega), zup_ne (by omega)]) (by rw [zup_miss (by omega), zup_hit]) zup_hit (fun k c _ _ c0 c1 => by omega)
/-- what the class's law leaves: refused for its text -/
def zSf9 (μ σ : zM) (q' : Nat) : Prop := (∀ b : Int, b ≠ 0 → b ≠ 103 → ¬ (90 ≤ b ∧ b ≤ 98) → σ b = μ b) ∧ σ 0 4 = 0 ∧ σ 0 6 = q' ∧ σ 0 10 = -6 ∧ (∀ j : Int, j ≠ 3 → σ 103 j = μ 103 j) ∧ σ 103 3 = zw (μ 103 3 + 1)
/-- .. kept -/
def zSk9 (μ σ : zM) (n m : Nat) (g : Int → Int) (wt ws : zTw) : Prop := (∀ b : Int, b ≠ 0 → b ≠ 1 → b ≠ 10 → ¬ (59 + 7 * (n : Int) ≤ b ∧ b < 59 + 7 * (n : Int) + 7) → ¬ (90 ≤ b ∧ b ≤ 98) → σ b = μ b) ∧ σ 0 4 = 0 ∧ σ 0 6 = -1 ∧ σ 0 10 = 0 ∧ (∀ j : Int, j ≠ 7 → σ 1 j = μ 1 j) ∧ σ 1 7 = ((n + 1 : Nat) : Int) ∧ (∀ j : Int, j ≠ n → σ 10 j = μ 10 j) ∧ σ 10 n = 1 ∧ zDr σ (59 + 7 * (n : Int)) ∧ σ 92 0 = m ∧ zLC σ 92 g wt ws ∧ zLW m wt ws
theorem k_S_law {n : Nat} {Q : Int → zM → Prop} {g : Int → Int} {wt ws : zTw} (hd : 63 ≤ d) (h7 : μ 1 7 = n) (n4 : n ≤ 4) (h4 : μ 0 4 = L) (hL4 : L ≤ 400) (hT : ∀ i : Int, 0 ≤ i → i < L → μ 89 i = T i)
    (hA : n = 4 → Q (-5) (sref (zup μ 0 4 0) (-5) 2))
    (hB : n < 4 → ∀ q' σ, zPl9 T L 12 0 (zbl T L 0) 0 g wt ws = (q', none) → zSf9 μ σ q' → Q (-6) σ)
    (hC : n < 4 → ∀ q' m g' wt' ws' σ, zPl9 T L 12 0 (zbl T L 0) 0 g wt ws = (q', some (m, g', wt', ws')) → zSk9 μ σ n m g' wt' ws' → Q n σ) : zCi X true l d 0 0 y_S_law [(12, 0, 0)] μ Q := by
  refine c_S_law (a0 := 0) (d1 := d - 1) (by omega) ?_
  simp only [Int.reduceAdd]
  have e7 : zup μ 0 4 0 1 7 = n := by rw [zup_ne (by decide)]; exact h7
  rw [e7, h4]
  refine k_S_within (fun _ b => ⟨fun _ => ?_, fun z => absurd z (by decide)⟩) (fun z => ⟨fun y => absurd rfl y, fun _ => k_S_refuse5 (hA (by omega))⟩)
  have n3 : n < 4 := by omega
  refine k_read (T := T) (L := L) (g := g) (wt := wt) (ws := ws) (by omega) hL4 (fun i i0 i1 => by rw [zup_ne (by decide)]; exact hT i i0 i1) (fun q' ν e f => ?_) (fun q' m g' wt' ws' ν e f C m0 W => ?_)
  · have e6 : zup ν 0 6 (q' : Int) 0 6 = q' := zup_hit
    refine ⟨fun z => by rw [e6] at z; omega, fun _ => k_S_refuse6 (hB n3 q' _ e ⟨fun b h1 h2 h3 => ?_, ?_, ?_, ?_, fun j hj => ?_, ?_⟩)⟩
    · unfold sref; rw [zup_ne h2, zup_ne h1, zup_ne h1, f b h3, zup_ne h1]
    · unfold sref; rw [zup_ne (by decide), zup_miss (by decide), zup_miss (by decide), f 0 (by decide), zup_hit]
    · unfold sref; rw [zup_ne (by decide), zup_miss (by decide), zup_hit]
    · unfold sref; rw [zup_ne (by decide), zup_hit]
    · unfold sref; rw [zup_miss (by omega), zup_ne (by decide), zup_ne (by decide), f 103 (by decide), zup_ne (by decide)]
    · unfold sref; rw [zup_hit, zup_ne (by decide), f 103 (by decide), zup_ne (by decide)]
  · refine ⟨fun _ => ⟨by omega, ?_⟩, fun z => absurd zup_hit z⟩
    have C0 := C.1
    obtain ⟨s, hs⟩ : ∃ s : Nat, ν 92 5 = s := ⟨(ν 92 5).toNat, by omega⟩
    refine k_becomeDraft (a := 59 + 7 * (n : Int)) (m := m) (s := s) (by omega) (by rw [zup_ne (by decide)]; exact m0) (by omega) (by rw [zup_ne (by decide)]; exact hs) (by omega) (fun c c0 c1 => ?_) (fun ν2 f2 D2 => ⟨by omega, ?_⟩)
    · rw [zup_ne (by decide)]
      have := (C.2 c c0 (by omega)).1
      have e1 : ν 93 c = g' c := this.1
      rw [e1]; exact this.2
    · rw [zw_of (by omega) (by omega)]
      refine k_S_allow (hC n3 q' m g' wt' ws' _ e ⟨fun b h1 h2 h3 h4 h5 => ?_, ?_, ?_, ?_, fun j hj => ?_, ?_, fun j hj => ?_, ?_, ?_, ?_, ?_, W⟩)
      · unfold sok; rw [zup_ne h1, zup_ne h2, zup_ne h3, f2 b h4, zup_ne h1, f b h5, zup_ne h1]
      · unfold sok; rw [zup_miss (by decide), zup_ne (by decide), zup_ne (by decide), f2 0 (by omega), zup_miss (by decide), f 0 (by decide), zup_hit]
      · unfold sok; rw [zup_miss (by decide), zup_ne (by decide), zup_ne (by decide), f2 0 (by omega), zup_hit]
      · unfold sok; rw [zup_hit]
      · unfold sok; rw [zup_ne (by decide), zup_miss (by omega), zup_ne (by decide), f2 1 (by omega), zup_ne (by decide), f 1 (by decide), zup_ne (by decide)]
      · unfold sok; rw [zup_ne (by decide), zup_hit]; rfl
      · unfold sok; rw [zup_ne (by decide), zup_ne (by decide), zup_miss (by omega), f2 10 (by omega), zup_ne (by decide), f 10 (by decide), zup_ne (by decide)]
      · unfold sok; rw [zup_ne (by decide), zup_ne (by decide), zup_hit]
      · have k : ∀ b : Int, b ≠ 0 → b ≠ 1 → b ≠ 10 → sok (zup (zup ν2 10 n 1) 1 7 ((n : Int) + 1)) b = ν2 b := fun b h1 h2 h3 => by unfold sok; rw [zup_ne h1, zup_ne h2, zup_ne h3]
        unfold zDr at D2 ⊢
        rw [k (59 + 7 * (n : Int)) (by omega) (by omega) (by omega), k 92 (by decide) (by decide) (by decide)]
        exact ⟨D2.1, D2.2.1, fun q c k1 k2 c0 c1 => by rw [k _ (by omega) (by omega) (by omega), k _ (by omega) (by omega) (by omega)]; exact D2.2.2.1 q c k1 k2 c0 c1, fun q c k1 k2 c0 c1 => by rw [k _ (by omega) (by omega) (by omega), k _ (by omega) (by omega) (by omega)]; exact D2.2.2.2 q c k1 k2 c0 c1⟩
      · unfold sok; rw [zup_ne (by decide), zup_ne (by decide), zup_ne (by decide), f2 92 (by omega), zup_ne (by decide)]; exact m0
      · have k : ∀ b : Int, 92 ≤ b → b ≤ 98 → sok (zup (zup ν2 10 n 1) 1 7 ((n : Int) + 1)) b = ν b := fun b h1 h2 => by unfold sok; rw [zup_ne (by omega), zup_ne (by omega), zup_ne (by omega), f2 b (by omega), zup_ne (by omega)]
        unfold zLC at C ⊢
        simp only [Int.reduceAdd] at C ⊢
        rw [k 92 (by decide) (by decide), k 93 (by decide) (by decide), k 94 (by decide) (by decide), k 95 (by decide) (by decide), k 96 (by decide) (by decide), k 97 (by decide) (by decide), k 98 (by decide) (by decide)]
        exact C
end

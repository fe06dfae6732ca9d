/-! the RECKONER of the class, ANY or EACH -/
def zev (δ : Nat → Int → Int) (law : Option zLaw) (wo who : Int) (m G : Nat) : Int := if who = -1 then 100 ^ (m * G) - zsty (fun p g => zcg δ law wo p g 0 0) m G else zeU (fun g p s go => zcg δ law wo p g s go) m who.toNat G
def zRk (μ : zM) (δ : Nat → Int → Int) (law : Option zLaw) (wo who : Int) (m g : Nat) : Prop := μ 105 1 = who ∧ μ 105 2 = g ∧ μ 105 3 = m ∧ (who = -1 → zBv μ 128 15 (zsty (fun p g => zcg δ law wo p g 0 0) m g)) ∧ (who ≠ -1 → ∀ s : Nat, s < 243 → zBv μ ((if μ 105 6 = 0 then 134 else 136) + 4 * s) 15 (zeV (fun g p s go => zcg δ law wo p g s go) m who.toNat g s))
def zKr (μ ν : zM) : Prop := (∀ b : Int, b ≠ 105 → ¬ (119 ≤ b ∧ b ≤ 120) → ¬ (123 ≤ b ∧ b < 1106) → ν b = μ b) ∧ zBigs ν
theorem zKr.trans {μ ν ρ : zM} (h : zKr μ ν) (k : zKr ν ρ) : zKr μ ρ := ⟨fun b b0 b1 b2 => (k.1 b b0 b1 b2).trans (h.1 b b0 b1 b2), k.2⟩
theorem zKr.cm {μ ν : zM} (k : zKr μ ν) : zCm μ ν := ⟨fun b b0 b1 => k.1 b (by omega) (by omega) (by omega), k.1 _ (by decide) (by decide) (by decide), fun b b0 b1 => k.1 b (by omega) (by omega) (by omega), fun b b0 b1 => k.1 b (by omega) (by omega) (by omega), k.1 _ (by decide) (by decide) (by decide), by rw [k.1 1320 (by decide) (by decide) (by decide)]; exact ⟨rfl, rfl, rfl, rfl⟩, k.2⟩
theorem zBigs.rk {μ ν : zM} (hB : zBigs μ) (fr : ∀ b : Int, 1106 ≤ b → b < 1320 → ν b = μ b) (h1 : ∀ s : Int, 0 ≤ s → s < 243 → zBig ν (134 + 4 * s) 15 ∧ zBig ν (136 + 4 * s) 15) (h2 : zBig ν 124 15 ∧ zBig ν 126 15 ∧ zBig ν 128 15 ∧ zBig ν 130 15 ∧ zBig ν 132 15) : zBigs ν := by
  obtain ⟨⟨b1, b2, b3, b4, b5, b6⟩, b7⟩ := hB
  refine ⟨⟨h1, h2, fun n a b => ⟨(b3 n a b).1.keep (fr _ (by omega) (by omega)) (fr _ (by omega) (by omega)), (b3 n a b).2.1.keep (fr _ (by omega) (by omega)) (fr _ (by omega) (by omega)), (b3 n a b).2.2.1.keep (fr _ (by omega) (by omega)) (fr _ (by omega) (by omega)), (b3 n a b).2.2.2.keep (fr _ (by omega) (by omega)) (fr _ (by omega) (by omega))⟩, b4.keep (fr _ (by omega) (by omega)) (fr _ (by omega) (by omega)), b5.keep (fr _ (by omega) (by omega)) (fr _ (by omega) (by omega)), b6.keep (fr _ (by omega) (by omega)) (fr _ (by omega) (by omega))⟩, fun k hk => ?_⟩
  rw [fr _ (by omega) (by omega), fr _ (by omega) (by omega), fr _ (by omega) (by omega)]
  exact b7 k hk
section
variable {X : zX} {l : Launch} {d : Nat} {μ : zM} {δ : Nat → Int → Int} {law : Option zLaw}
theorem k_R_start {x : Int} {m : Nat} {Q : zM → Prop} (hd : 2 ≤ d) (hB : zBigs μ) (hC : zCd μ δ) (hm : δ 10 0 = m) (hx : x = -1 ∨ (0 ≤ x ∧ x < m)) (hQ : ∀ ν, zKr μ ν → zRk ν δ law (μ 106 5) x m 0 → Q ν) : zCv X true l d 0 0 y_Reckoner_start [(6, 0, 105), (0, 0, x)] μ Q := by
  have c107 := hC.2.2
  refine c_Reckoner_start (a0 := 105) (d1 := 1) (by omega) ?_
  simp only [Int.reduceAdd]
  rw [zup_ne (show (107 : Int) ≠ 105 by decide), zup_ne (show (107 : Int) ≠ 105 by decide), c107, hm]
  generalize hμ1 : zup (zup (zup μ 105 1 x) 105 2 0) 105 3 (m : Int) = μ1
  have f0 : ∀ b : Int, b ≠ 105 → μ1 b = μ b := fun b hb => by rw [← hμ1, zup_ne hb, zup_ne hb, zup_ne hb]
  have f1 : μ1 105 1 = x := by rw [← hμ1]; simp [zup]
  have f2 : μ1 105 2 = 0 := by rw [← hμ1]; simp [zup]
  have f3 : μ1 105 3 = m := by rw [← hμ1]; simp [zup]
  have B1 : zBigs μ1 := hB.keep2 (fun b b0 b1 => f0 b (by omega))
  have hb := B1.1.1
  obtain ⟨c124, c126, c128, c130, c132⟩ := B1.1.2.1
  refine k_setSmall (a := 128) (L := 15) (by omega) (by omega) (by omega) c128 (by decide) (by decide) (fun ν1 n1 n2 => ?_)
  have e105 : ν1 105 = μ1 105 := n1 105 (by decide) (by decide)
  have hb1 : ∀ s : Int, 0 ≤ s → s < 243 → zBig ν1 (134 + 4 * s) 15 ∧ zBig ν1 (136 + 4 * s) 15 := fun s s0 s1 => ⟨(hb s s0 s1).1.keep (n1 _ (by omega) (by omega)) (n1 _ (by omega) (by omega)), (hb s s0 s1).2.keep (n1 _ (by omega) (by omega)) (n1 _ (by omega) (by omega))⟩
  refine ⟨fun ex => ?_, fun ex => ?_⟩
  · refine hQ ν1 ⟨fun b b0 b1 b2 => by rw [n1 b (by omega) (by omega)]; exact f0 b b0, B1.rk (fun b b0 b1 => n1 b (by omega) (by omega)) hb1 ⟨c124.keep (n1 _ (by omega) (by omega)) (n1 _ (by omega) (by omega)), c126.keep (n1 _ (by omega) (by omega)) (n1 _ (by omega) (by omega)), n2.1, c130.keep (n1 _ (by omega) (by omega)) (n1 _ (by omega) (by omega)), c132.keep (n1 _ (by omega) (by omega)) (n1 _ (by omega) (by omega))⟩⟩ ⟨by rw [e105]; exact f1, by rw [e105]; exact f2, by rw [e105]; exact f3, fun _ => n2, fun q => absurd ex q⟩
  · obtain ⟨w, hw⟩ : ∃ w : Nat, x = w := ⟨x.toNat, by omega⟩
    have v0 : ∀ s : Nat, zeV (fun g p s go => zcg δ law (μ 106 5) p g s go) m x.toNat 0 s = if s = 0 then 1 else 0 := fun s => by
      unfold zeV zeR
      by_cases e : s = 0
      · rw [e, if_pos rfl, if_pos (by unfold zeF; rw [Nat.zero_div])]
      · rw [if_neg e, ite_self]
    have go : ∀ (tt : Nat) (o a : Int), tt = 20 ∧ o = 13 ∧ a = 121 ∨ tt = 21 ∧ o = 14 ∧ a = 122 → a + o = (if ν1 105 6 = 0 then 134 else 136) → zCv X true l 1 0 0 y_Reckoner_clearStates [((tt + 2), 243, a)] ν1 (fun ν5 => zCv X true l 1 0 0 y_Big_setSmall [(2, 15, a + o + 4 * 0), (0, 0, 1)] ν5 (fun ν7 => Q ν7)) := by
      intro tt o a hta hao
      refine k_clearStates hta (by omega) (fun s hs => ?_) (fun ν5 s1 s2 => ?_)
      · have q := hb1 s (by omega) (by omega)
        rcases hta with ⟨_, e1, e2⟩ | ⟨_, e1, e2⟩
        · rw [e1, e2]; exact q.1
        · rw [e1, e2]; exact q.2
      · have z := s2 0 (by omega)
        have z' : zBv ν5 (a + o + 4 * 0) 15 0 := z
        refine k_setSmall (a := a + o + 4 * 0) (L := 15) (by omega) (by omega) (by omega) z'.1 (by decide) (by decide) (fun ν7 u1 u2 => ?_)
        have g7 : ∀ b : Int, ¬ (a + o ≤ b ∧ b < a + o + 972 ∧ (b - (a + o)) % 4 ≤ 1) → ν7 b = ν1 b := fun b hb => by rw [u1 b (by omega) (by omega)]; exact s1 b hb
        have e7 : ν7 105 = ν1 105 := g7 105 (by omega)
        have val : ∀ s : Nat, s < 243 → zBv ν7 (a + o + 4 * s) 15 (if s = 0 then 1 else 0) := fun s hs => by
          by_cases e : s = 0
          · rw [if_pos e, e]; exact u2
          · rw [if_neg e]
            exact (s2 s hs).keep (u1 _ (by omega) (by omega)) (u1 _ (by omega) (by omega))
        have hb7 : ∀ s : Int, 0 ≤ s → s < 243 → zBig ν7 (134 + 4 * s) 15 ∧ zBig ν7 (136 + 4 * s) 15 := fun s s0 s3 => by
          have q := hb1 s s0 s3
          have v := val s.toNat (by omega)
          rw [Int.toNat_of_nonneg s0] at v
          rcases hta with ⟨_, r1, r2⟩ | ⟨_, r1, r2⟩
          · rw [r1, r2] at v
            exact ⟨v.1, q.2.keep (g7 _ (by omega)) (g7 _ (by omega))⟩
          · rw [r1, r2] at v
            exact ⟨q.1.keep (g7 _ (by omega)) (g7 _ (by omega)), v.1⟩
        have c5 := n1
        refine hQ ν7 ⟨fun b b0 b1 b2 => by rw [g7 b (by omega), n1 b (by omega) (by omega)]; exact f0 b b0, B1.rk (fun b b0 b1 => by rw [g7 b (by omega), n1 b (by omega) (by omega)]) hb7 ⟨c124.keep ((g7 _ (by omega)).trans (n1 _ (by omega) (by omega))) ((g7 _ (by omega)).trans (n1 _ (by omega) (by omega))), c126.keep ((g7 _ (by omega)).trans (n1 _ (by omega) (by omega))) ((g7 _ (by omega)).trans (n1 _ (by omega) (by omega))), n2.1.keep (g7 _ (by omega)) (g7 _ (by omega)), c130.keep ((g7 _ (by omega)).trans (n1 _ (by omega) (by omega))) ((g7 _ (by omega)).trans (n1 _ (by omega) (by omega))), c132.keep ((g7 _ (by omega)).trans (n1 _ (by omega) (by omega))) ((g7 _ (by omega)).trans (n1 _ (by omega) (by omega)))⟩⟩ ⟨by rw [e7, e105]; exact f1, by rw [e7, e105]; exact f2, by rw [e7, e105]; exact f3, fun q => absurd q ex, fun _ s hs => ?_⟩
        rw [e7, ← hao, v0 s]
        exact val s hs
    refine ⟨fun z => ?_, fun z => ?_⟩
    · exact go 20 13 121 (by decide) (by rw [if_pos z]; decide)
    · exact go 21 14 122 (by decide) (by rw [if_neg z]; decide)
end

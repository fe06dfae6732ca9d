/-! law: the reference's call, and the pair -/
def zRf9 (σ ρ : zM) (q' : Nat) : Prop := (∀ b : Int, b ≠ 1320 → b ≠ 1321 → ¬ (1326 ≤ b ∧ b ≤ 1330) → ρ b = σ b) ∧ ρ 1320 7 = 0 ∧ ρ 1320 12 = q' ∧ ρ 1320 1 = -6 ∧ ρ 1320 45 = σ 1320 45 ∧ (∀ j : Int, j ≠ 6 → ρ 1321 j = σ 1321 j) ∧ ρ 1321 6 = zw (σ 1321 6 + 1)
def zRk9 (σ ρ : zM) (n m : Nat) (g : Int → Int) (wt ws : zTw) : Prop := (∀ b : Int, b ≠ 1320 → b ≠ 1322 → ¬ (1326 ≤ b ∧ b ≤ 1330) → ρ b = σ b) ∧ ρ 1320 7 = 0 ∧ ρ 1320 12 = -1 ∧ ρ 1320 1 = 0 ∧ ρ 1320 45 = σ 1320 45 ∧ ρ 1322 3 = ((n + 1 : Nat) : Int) ∧ (∀ i : Int, i ≠ 3 → ¬ (480 + 900 * (n : Int) ≤ i ∧ i < 480 + 900 * (n : Int) + 900) → ρ 1322 i = σ 1322 i) ∧ zLM (fun i => ρ 1322 (480 + 900 * (n : Int) + i)) m g wt ws
theorem zLN9.lm {ν ρ : zM} {n m c' : Nat} {g : Int → Int} {wt ws : zTw} (h : zLN9 (ν 1326) (ν 1327) (ν 1328) m c' g wt ws) (c4 : c' ≤ 400) (k : zKp9 ν ρ n m c') : zLM (fun i => ρ 1322 (480 + 900 * (n : Int) + i)) m g wt ws := by
  obtain ⟨k1, k2, k3, k4, k5, k6, k7, k8, k9⟩ := k
  refine ⟨k7, fun c c0 c1 => ?_⟩
  have e : ∀ j : Int, 0 ≤ j → j < 8 → ρ 1322 (480 + 900 * (n : Int) + (2 + (8 * c + j))) = ν 1326 (8 * c + j) := fun j j0 j1 => k8 (8 * c + j) (by omega) (by omega)
  have e0 : ρ 1322 (480 + 900 * (n : Int) + (2 + 8 * c)) = ν 1326 (8 * c) := k8 (8 * c) (by omega) (by omega)
  have e3 : ρ 1322 (480 + 900 * (n : Int) + (2 + 8 * c + 3)) = ν 1326 (8 * c + 3) := by rw [← e 3 (by omega) (by omega)]; congr 1; omega
  have e4 : ρ 1322 (480 + 900 * (n : Int) + (2 + 8 * c + 4)) = ν 1326 (8 * c + 4) := by rw [← e 4 (by omega) (by omega)]; congr 1; omega
  have e5 : ρ 1322 (480 + 900 * (n : Int) + (2 + 8 * c + 5)) = ν 1326 (8 * c + 5) := by rw [← e 5 (by omega) (by omega)]; congr 1; omega
  have e6 : ρ 1322 (480 + 900 * (n : Int) + (2 + 8 * c + 6)) = ν 1326 (8 * c + 6) := by rw [← e 6 (by omega) (by omega)]; congr 1; omega
  show ρ 1322 (480 + 900 * (n : Int) + (2 + 8 * c)) = 1 - g c ∧ (0 ≤ ρ 1322 (480 + 900 * (n : Int) + (2 + 8 * c + 3)) ∧ ρ 1322 (480 + 900 * (n : Int) + (2 + 8 * c + 4)) ≤ 400 ∧ 0 ≤ ρ 1322 (480 + 900 * (n : Int) + (2 + 8 * c + 5)) ∧ ρ 1322 (480 + 900 * (n : Int) + (2 + 8 * c + 6)) ≤ 400) ∧
    (∃ D : Nat, D ≤ 64 ∧ ∀ F, zGF F → zS5 (zKk fun i => ρ 1322 (480 + 900 * (n : Int) + i)) (zKa fun i => ρ 1322 (480 + 900 * (n : Int) + i)) F (ρ 1322 (480 + 900 * (n : Int) + (2 + 8 * c + 3))) (ρ 1322 (480 + 900 * (n : Int) + (2 + 8 * c + 4))) D (ws F c)) ∧
    (ρ 1322 (480 + 900 * (n : Int) + (2 + 8 * c + 5)) < ρ 1322 (480 + 900 * (n : Int) + (2 + 8 * c + 6)) → ∃ D : Nat, D ≤ 64 ∧ ∀ F, zGF F → zS5 (zKk fun i => ρ 1322 (480 + 900 * (n : Int) + i)) (zKa fun i => ρ 1322 (480 + 900 * (n : Int) + i)) F (ρ 1322 (480 + 900 * (n : Int) + (2 + 8 * c + 5))) (ρ 1322 (480 + 900 * (n : Int) + (2 + 8 * c + 6))) D (wt F c)) ∧
    (ρ 1322 (480 + 900 * (n : Int) + (2 + 8 * c + 6)) ≤ ρ 1322 (480 + 900 * (n : Int) + (2 + 8 * c + 5)) → ∀ F, wt F c = some 1)
  rw [e0, e3, e4, e5, e6]
  have cg : ∀ s : Int, 0 ≤ s → s < c' → (zKk fun i => ρ 1322 (480 + 900 * (n : Int) + i)) s = (fun i => zMk (ν 1327 i)) s ∧ (zKa fun i => ρ 1322 (480 + 900 * (n : Int) + i)) s = (fun i => zMa (ν 1327 i) (ν 1328 i)) s := fun s s0 s1 => by
    have := k9 s s0 s1
    unfold zKk zKa
    show zMk (ρ 1322 (480 + 900 * (n : Int) + (98 + 2 * s))) = zMk (ν 1327 s) ∧ zMa (ρ 1322 (480 + 900 * (n : Int) + (98 + 2 * s))) (ρ 1322 (480 + 900 * (n : Int) + (98 + 2 * s + 1))) = zMa (ν 1327 s) (ν 1328 s)
    rw [this.1, this.2]; exact ⟨rfl, rfl⟩
  have le : ∀ x y z : Int, x < y → y ≤ z → x < z := fun x y z a b => by omega
  have hc := h c c0 c1
  have o2 := hc.2.1
  have c4' : (c' : Int) ≤ 400 := by omega
  refine ⟨hc.1, ⟨o2.1, Int.le_trans o2.2.1 c4', o2.2.2.1, Int.le_trans o2.2.2.2 c4'⟩, ?_, fun z => ?_, hc.2.2.2.2⟩
  · obtain ⟨D, d1, d2⟩ := hc.2.2.1
    exact ⟨D, d1, fun F hF => (d2 F hF).congr (fun s s0 s1 => cg s (Int.le_trans o2.1 s0) (le _ _ _ s1 o2.2.1)) (fun _ _ _ => rfl)⟩
  · obtain ⟨D, d1, d2⟩ := hc.2.2.2.1 z
    exact ⟨D, d1, fun F hF => (d2 F hF).congr (fun s s0 s1 => cg s (Int.le_trans o2.2.2.1 s0) (le _ _ _ s1 o2.2.2.2)) (fun _ _ _ => rfl)⟩
section
variable {X : zX} {l : Launch} {d : Nat} {T : Int → Int} {L : Nat}
theorem k_M_law {σ : zM} {n : Nat} {R : Int → zM → Prop} {g : Int → Int} {wt ws : zTw} (hd : 17 ≤ d) (h3 : σ 1322 3 = n) (n4 : n ≤ 4) (h7 : σ 1320 7 = L) (hL4 : L ≤ 400) (hT : ∀ i : Int, 0 ≤ i → i < L → σ 1325 i = T i)
    (hA : n = 4 → R (-5) (mref (zup (zup σ 1320 0 0) 1320 7 0) (-5)))
    (hB : n < 4 → ∀ q' ρ, zPl9 T L 12 0 (zbl T L 0) 0 g wt ws = (q', none) → zRf9 σ ρ q' → R (-6) ρ)
    (hC : n < 4 → ∀ q' m g' wt' ws' ρ, zPl9 T L 12 0 (zbl T L 0) 0 g wt ws = (q', some (m, g', wt', ws')) → zRk9 σ ρ n m g' wt' ws' → R n ρ) : zCi X true l d 0 0 y_M_law [(13, 0, 1320)] σ R := by
  refine c_M_law (a0 := 1320) (d1 := d - 1) (by omega) ?_
  simp only [Int.reduceAdd]
  have e3 : zup σ 1320 0 0 1322 3 = n := by rw [zup_ne (by decide)]; exact h3
  rw [e3]
  refine ⟨fun z => ?_, fun z => k_M_telln (by omega) (hA (by omega))⟩
  have n3 : n < 4 := by omega
  refine c_M_begin (a0 := 1320) (d1 := d - 2) (by omega) ?_
  have b1 : ∀ b : Int, b ≠ 1320 → zup (zup (zup (zup σ 1320 0 0) 1320 9 0) 1320 13 0) 1320 12 (-1) b = σ b := fun b hb => by rw [zup_ne hb, zup_ne hb, zup_ne hb, zup_ne hb]
  have b2 : ∀ j : Int, j ≠ 0 → j ≠ 9 → j ≠ 12 → j ≠ 13 → zup (zup (zup (zup σ 1320 0 0) 1320 9 0) 1320 13 0) 1320 12 (-1) 1320 j = σ 1320 j := fun j h1 h2 h3 h4 => by rw [zup_miss (by omega), zup_miss (by omega), zup_miss (by omega), zup_miss (by omega)]
  have b9 : zup (zup (zup (zup σ 1320 0 0) 1320 9 0) 1320 13 0) 1320 12 (-1) 1320 9 = ((0 : Nat) : Int) := by rw [zup_miss (by decide), zup_miss (by decide), zup_hit]; rfl
  have b13 : zup (zup (zup (zup σ 1320 0 0) 1320 9 0) 1320 13 0) 1320 12 (-1) 1320 13 = 0 := by rw [zup_miss (by decide), zup_hit]
  have b12 : zup (zup (zup (zup σ 1320 0 0) 1320 9 0) 1320 13 0) 1320 12 (-1) 1320 12 = -1 := zup_hit
  generalize zup (zup (zup (zup σ 1320 0 0) 1320 9 0) 1320 13 0) 1320 12 (-1) = σ1 at *
  refine k_M_next0 (T := T) (L := L) (p := 0) (by omega) (by rw [b2 7 (by decide) (by decide) (by decide) (by decide)]; exact h7) (fun i i0 i1 => by rw [b1 1325 (by decide)]; exact hT i i0 i1) hL4 b9 (by omega) (fun ν f1 f2 t1 => ?_)
  have c1 : ∀ b : Int, b ≠ 1320 → zup (zup (zup ν 1320 14 0) 1320 16 0) 1320 19 0 b = σ b := fun b hb => by rw [zup_ne hb, zup_ne hb, zup_ne hb, f1 b hb, b1 b hb]
  have c2 : ∀ j : Int, ¬ (8 ≤ j ∧ j ≤ 14) → j ≠ 0 → j ≠ 16 → j ≠ 19 → zup (zup (zup ν 1320 14 0) 1320 16 0) 1320 19 0 1320 j = σ 1320 j := fun j h1 h2 h3 h4 => by rw [zup_miss (by omega), zup_miss (by omega), zup_miss (by omega), f2 j (by omega), b2 j (by omega) (by omega) (by omega) (by omega)]
  have c13 : zup (zup (zup ν 1320 14 0) 1320 16 0) 1320 19 0 1320 13 = 0 := by rw [zup_miss (by decide), zup_miss (by decide), zup_miss (by decide), f2 13 (by decide)]; exact b13
  have c12 : zup (zup (zup ν 1320 14 0) 1320 16 0) 1320 19 0 1320 12 = -1 := by rw [zup_miss (by decide), zup_miss (by decide), zup_miss (by decide), f2 12 (by decide)]; exact b12
  have c14 : zup (zup (zup ν 1320 14 0) 1320 16 0) 1320 19 0 1320 14 = ((0 : Nat) : Int) := by rw [zup_miss (by decide), zup_miss (by decide), zup_hit]; rfl
  have c16 : zup (zup (zup ν 1320 14 0) 1320 16 0) 1320 19 0 1320 16 = ((0 : Nat) : Int) := by rw [zup_miss (by decide), zup_hit]; rfl
  have c19 : zup (zup (zup ν 1320 14 0) 1320 16 0) 1320 19 0 1320 19 = ((0 : Nat) : Int) := zup_hit
  have ct : zTm (zup (zup (zup ν 1320 14 0) 1320 16 0) 1320 19 0) T L (zbl T L 0) := t1.keep (by rw [zup_ne (by decide), zup_ne (by decide), zup_ne (by decide)]) (fun j j0 j1 => by rw [zup_miss (by omega), zup_miss (by omega), zup_miss (by omega)])
  generalize zup (zup (zup ν 1320 14 0) 1320 16 0) 1320 19 0 = σ2 at *
  refine k_mLoop (T := T) (L := L) (by omega) 12 0 (by omega) σ2 (zbl T L 0) 0 0 g wt ws ct c13 c14 c16 (by omega) c19 (by omega) (fun c a b => by omega) (fun q' ν2 e f n13 n12 => ?_) (fun q' m g' wt' ws' ν2 c' e f n12 n13 n14 m12 n16 c4 N => ?_)
  · refine s_M_law_96 (a0 := 1320) (d1 := d - 1) (by omega) ⟨fun z => ?_, fun _ => k_M_telln (by omega) (hB n3 q' _ e ⟨fun b h1 h2 h3 => ?_, ?_, ?_, ?_, ?_, fun j hj => ?_, ?_⟩)⟩
    · rw [zup_miss (by decide), n13] at z; exact absurd z (by decide)
    · unfold mref; rw [zup_ne h2, zup_ne h1, zup_ne h1, f.1 b h1 h3, c1 b h1]
    · unfold mref; rw [zup_ne (by decide), zup_miss (by decide), zup_hit]
    · unfold mref; rw [zup_ne (by decide), zup_miss (by decide), zup_miss (by decide)]; exact n12
    · unfold mref; rw [zup_ne (by decide), zup_hit]
    · unfold mref; rw [zup_ne (by decide), zup_miss (by decide), zup_miss (by decide), f.2 45 (by decide) (by decide) (by decide) (by decide) (by decide), c2 45 (by decide) (by decide) (by decide) (by decide)]
    · unfold mref; rw [zup_miss (by omega), zup_ne (by decide), zup_ne (by decide), f.1 1321 (by decide) (by decide), c1 1321 (by decide)]
    · unfold mref
      show zup (zup (zup ν2 1320 7 0) 1320 1 (-6)) 1321 6 (zw (zup ν2 1320 7 0 1321 6 + 1)) 1321 6 = _
      rw [zup_hit, zup_ne (by decide), f.1 1321 (by decide) (by decide), c1 1321 (by decide)]
  · refine k_mKeep (by omega) (by rw [f.1 1322 (by decide) (by decide), c1 1322 (by decide)]; exact h3) n3 n13 n14 m12 n16 c4 (fun ρ k => hC n3 q' m g' wt' ws' ρ e ?_)
    have lm := N.lm c4 k
    obtain ⟨k1, k2, k3, k4, k5, k6, k7, k8, k9⟩ := k
    refine ⟨fun b h1 h2 h3 => ?_, k3, ?_, k4, ?_, k5, fun i h1 h2 => ?_, lm⟩
    · rw [k1 b h1 h2, f.1 b h1 h3, c1 b h1]
    · rw [k2 12 (by decide) (by decide), n12]; exact c12
    · rw [k2 45 (by decide) (by decide), f.2 45 (by decide) (by decide) (by decide) (by decide) (by decide), c2 45 (by decide) (by decide) (by decide) (by decide)]
    · rw [k6 i h1 h2, f.1 1322 (by decide) (by decide), c1 1322 (by decide)]
end

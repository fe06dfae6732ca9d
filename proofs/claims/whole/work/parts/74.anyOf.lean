/-! what is looked at may be looked at again: anyOf -/
/-- ν is μ but for what is made anew at each look -/
def zCm (μ ν : zM) : Prop := (∀ b : Int, 0 ≤ b → b < 101 → ν b = μ b) ∧ ν 103 = μ 103 ∧ (∀ b : Int, 1148 ≤ b → b < 1320 → ν b = μ b) ∧ (∀ b : Int, 1321 ≤ b → b ≤ 1325 → ν b = μ b) ∧ ν 1342 = μ 1342 ∧ (ν 1320 1 = μ 1320 1 ∧ ν 1320 7 = μ 1320 7 ∧ ν 1320 12 = μ 1320 12 ∧ ν 1320 45 = μ 1320 45) ∧ zBigs ν
theorem zCm.trans {μ ν ρ : zM} (h : zCm μ ν) (k : zCm ν ρ) : zCm μ ρ := by
  obtain ⟨h1, h2, h3, h4, h5, ⟨h6, h7, h8, h9⟩, h10⟩ := h
  obtain ⟨k1, k2, k3, k4, k5, ⟨k6, k7, k8, k9⟩, k10⟩ := k
  exact ⟨fun b a c => (k1 b a c).trans (h1 b a c), k2.trans h2, fun b a c => (k3 b a c).trans (h3 b a c), fun b a c => (k4 b a c).trans (h4 b a c), k5.trans h5, ⟨k6.trans h6, k7.trans h7, k8.trans h8, k9.trans h9⟩, k10⟩
theorem zCm.refl {LR : zM → Int → (Int → Int) → Prop} {μ : zM} (h : zInv LR μ) : zCm μ μ := ⟨fun _ _ _ => rfl, rfl, fun _ _ _ => rfl, fun _ _ _ => rfl, rfl, ⟨rfl, rfl, rfl, rfl⟩, h.2.2.2.2.2.2.2.2⟩
theorem zInv.cm {μ ν : zM} (h : zInv zLR μ) (k : zCm μ ν) : zInv zLR ν := h.calm zLR_ok k.1 k.2.1 k.2.2.1 k.2.2.2.1 k.2.2.2.2.1 k.2.2.2.2.2.1 k.2.2.2.2.2.2
theorem zCm.row {μ ν : zM} (k : zCm μ ν) : ν 1322 = μ 1322 := k.2.2.2.1 1322 (by decide) (by decide)
/-- law number x, as both sides have it -/
def zLk (μ : zM) (x : Int) (law : Option zLaw) : Prop := (∀ ν : zM, (∀ b : Int, 0 ≤ b → b < 101 → ν b = μ b) → ν 106 4 = (if x = -1 then -1 else 59 + 7 * x) → zCL ν law) ∧ ∀ ν : zM, ν 1322 = μ 1322 → ν 1320 32 = x → zML ν law
theorem zLk.cm {μ ν : zM} {x : Int} {law : Option zLaw} (h : zLk μ x law) (k : zCm μ ν) : zLk ν x law := ⟨fun ρ q1 q2 => h.1 ρ (fun b a c => (q1 b a c).trans (k.1 b a c)) q2, fun ρ q1 q2 => h.2 ρ (q1.trans k.row) q2⟩
def zanyv (ρ : Int → Int) (P : Int) (law : Option zLaw) (wo : Int) : Int := zmil (100 ^ ((ρ (10 + P)).toNat * (ρ 2).toNat) - zsty (fun p g => zcha (zMd ρ P (ρ (10 + P)) 0 0) law wo p g 0 0) (ρ (10 + P)).toNat (ρ 2).toNat) ((ρ (10 + P)).toNat * (ρ 2).toNat)
theorem zmil_bd {v : Int} {h : Nat} (v0 : 0 ≤ v) (v1 : v ≤ 100 ^ h) : 0 ≤ zmil v h ∧ zmil v h ≤ 1000000 := by
  unfold zmil
  rw [zhun] at v1
  have p1 := zten_pos (6 - 2 * h)
  have p2 := zten_pos (2 * h - 6)
  refine ⟨Int.ediv_nonneg (Int.mul_nonneg v0 (by omega)) (by omega), ?_⟩
  have e : (10 : Int) ^ (2 * h) * 10 ^ (6 - 2 * h) = 1000000 * 10 ^ (2 * h - 6) := by
    rw [show (1000000 : Int) = 10 ^ 6 by decide, ← Int.pow_add, ← Int.pow_add]
    congr 1
    omega
  have le : v * 10 ^ (6 - 2 * h) ≤ 1000000 * 10 ^ (2 * h - 6) := by
    rw [← e]
    exact Int.mul_le_mul_of_nonneg_right v1 (by omega)
  have := Int.ediv_le_ediv p2 le
  rw [Int.mul_ediv_cancel _ (by omega)] at this
  exact this
theorem zanyv_bd {ρ : Int → Int} {P : Int} {law : Option zLaw} {wo : Int} : 0 ≤ zanyv ρ P law wo ∧ zanyv ρ P law wo ≤ 1000000 := by
  have b := zsty_bd (c := fun p g => zcha (zMd ρ P (ρ (10 + P)) 0 0) law wo p g 0 0) (fun _ _ => zcha_bd) (ρ (10 + P)).toNat (ρ 2).toNat
  exact zmil_bd (by omega) (by omega)
section
variable {X : zX} {l : Launch} {d : Nat} {μ : zM}
/-- from the Scene as it stands: how likely ANY is, in millionths -/
theorem k_any {δ : Nat → Int → Int} {law : Option zLaw} {m G : Nat} {Q : Int → zM → Prop} {d2 : Nat} (hd : 4 ≤ d) (hd2 : 2 ≤ d2) (hC : zCd μ δ) (hD : zDb δ) (hL : zCL μ law) (hm : δ 10 0 = m) (g12 : G ≤ 12) (hB : zBigs μ)
    (hQ : ∀ ν, (∀ b : Int, b ≠ 105 → ¬ (119 ≤ b ∧ b ≤ 120) → ¬ (126 ≤ b ∧ b ≤ 131) → ν b = μ b) → zBigs ν → Q (zmil (100 ^ (m * G) - zsty (fun p g => zcha δ law (μ 106 5) p g 0 0) m G) (m * G)) ν) : zCv X true l d 0 0 y_Reckoner_reckonAny [(6, 0, 105), (0, 0, (G : Int))] μ (fun ν => zCi X true l d2 0 0 y_Reckoner_millionths [(6, 0, 105)] ν Q) := by
  have m5 : m ≤ 5 := by have := hD.2.2; omega
  have sb := zsty_bd (c := fun p g => zcha δ law (μ 106 5) p g 0 0) (fun _ _ => zcha_bd) m G
  refine k_reckonAny hd hC hD hL hm g12 ⟨hB.1.2.1.2.1, hB.1.2.1.2.2.1, hB.1.2.1.2.2.2.1⟩ (fun ν n1 n2 n3 n4 n5 n6 n7 n8 => ?_)
  refine k_R_millionths hd2 n5 m5 n4 g12 n8 (by omega) (hQ ν n1 ?_)
  obtain ⟨⟨b1, b2, b3, b4, b5, b6⟩, b7⟩ := hB
  have e : ∀ b : Int, 121 ≤ b ∧ b < 1320 ∧ ¬ (126 ≤ b ∧ b ≤ 131) → ν b = μ b := fun b hb => n1 b (by omega) (by omega) (by omega)
  refine ⟨⟨fun s a b => ⟨(b1 s a b).1.keep (e _ (by omega)) (e _ (by omega)), (b1 s a b).2.keep (e _ (by omega)) (e _ (by omega))⟩, ⟨b2.1.keep (e _ (by decide)) (e _ (by decide)), n6.1, n7.1, n8.1, b2.2.2.2.2.keep (e _ (by decide)) (e _ (by decide))⟩, fun n a b => ⟨(b3 n a b).1.keep (e _ (by omega)) (e _ (by omega)), (b3 n a b).2.1.keep (e _ (by omega)) (e _ (by omega)), (b3 n a b).2.2.1.keep (e _ (by omega)) (e _ (by omega)), (b3 n a b).2.2.2.keep (e _ (by omega)) (e _ (by omega))⟩, b4.keep (e _ (by decide)) (e _ (by decide)), b5.keep (e _ (by decide)) (e _ (by decide)), b6.keep (e _ (by decide)) (e _ (by decide))⟩, fun k hk => ?_⟩
  rw [e _ (by omega), e _ (by omega), e _ (by omega)]
  exact b7 k hk
theorem k_S_anyOf {P x : Int} {law : Option zLaw} {Q : Int → zM → Prop} (hd : 5 ≤ d) (h : zInv zLR μ) (hl : zLk μ x law) (hx : x = -1 ∨ (0 ≤ x ∧ x < 4)) (P0 : 0 ≤ P) (P1 : P < 6) (hQ : ∀ ν, zCm μ ν → Q (zanyv (μ 1322) P law (-1)) ν) : zCi X true l d 0 0 y_S_anyOf [(12, 0, 0), (0, 0, P), (0, 0, x)] μ Q := by
  obtain ⟨m0, m1, m2⟩ := h.many P0 P1
  obtain ⟨g0, g1, g2⟩ := h.long
  have hB := h.2.2.2.2.2.2.2.2
  refine c_S_anyOf (a0 := 0) (d1 := 4) (by omega) ?_
  simp only [Int.reduceAdd]
  refine k_take (by omega) h P0 P1 hx (fun ν n1 n2 n3 n4 n5 => ?_)
  have e4 : ν 1 4 = ((μ 1322 2).toNat : Int) := by rw [n1 1 (by decide), g0]; omega
  rw [e4]
  refine k_any (m := (μ 1322 (10 + P)).toNat) (by omega) (by omega) n3 (zMd_db h.rb P0 P1 m1 m2) (hl.1 ν (fun b b0 b1 => n1 b (by omega)) n4) (show μ 1322 (10 + P) = _ by omega) (by omega) (hB.keep2 (fun b b0 b1 => n1 b (by omega))) (fun ν2 t1 t2 => ?_)
  rw [n5]
  have e : ∀ b : Int, ¬ (105 ≤ b ∧ b < 1148) → ν2 b = μ b := fun b hb => by rw [t1 b (by omega) (by omega) (by omega), n1 b (by omega)]
  exact hQ ν2 ⟨fun b b0 b1 => e b (by omega), e _ (by decide), fun b b0 b1 => e b (by omega), fun b b0 b1 => e b (by omega), e _ (by decide), by rw [e 1320 (by decide)]; exact ⟨rfl, rfl, rfl, rfl⟩, t2⟩
theorem k_S_anyWithout {P r : Int} {law : Option zLaw} {Q : Int → zM → Prop} (hd : 5 ≤ d) (h : zInv zLR μ) (hl : zLk μ (μ 1322 1) law) (P0 : 0 ≤ P) (P1 : P < 6) (hQ : ∀ ν, zCm μ ν → Q (zanyv (μ 1322) P law r) ν) : zCi X true l d 0 0 y_S_anyWithout [(12, 0, 0), (0, 0, P), (0, 0, r)] μ Q := by
  obtain ⟨m0, m1, m2⟩ := h.many P0 P1
  obtain ⟨g0, g1, g2⟩ := h.long
  obtain ⟨f0, f1, f2, f3⟩ := h.force
  have hB := h.2.2.2.2.2.2.2.2
  refine c_S_anyWithout (a0 := 0) (d1 := 4) (by omega) ?_
  simp only [Int.reduceAdd]
  rw [f0]
  refine k_take (by omega) h P0 P1 (by omega) (fun ν n1 n2 n3 n4 n5 => ?_)
  rw [zup_ne (show (1 : Int) ≠ 106 by decide)]
  have e4 : ν 1 4 = ((μ 1322 2).toNat : Int) := by rw [n1 1 (by decide), g0]; omega
  rw [e4]
  have z : ∀ b : Int, b ≠ 106 → zup ν 106 5 r b = ν b := fun b hb => zup_ne hb
  refine k_any (m := (μ 1322 (10 + P)).toNat) (by omega) (by omega) (n3.keep (fun b b0 b1 => z b (by omega))) (zMd_db h.rb P0 P1 m1 m2) (hl.1 _ (fun b b0 b1 => by rw [z b (by omega)]; exact n1 b (by omega)) (by rw [zup_miss (by decide)]; exact n4)) (show μ 1322 (10 + P) = _ by omega) (by omega) (hB.keep2 (fun b b0 b1 => by rw [z b (by omega)]; exact n1 b (by omega))) (fun ν2 t1 t2 => ?_)
  rw [zup_hit]
  have e : ∀ b : Int, ¬ (105 ≤ b ∧ b < 1148) → ν2 b = μ b := fun b hb => by rw [t1 b (by omega) (by omega) (by omega), z b (by omega), n1 b (by omega)]
  exact hQ ν2 ⟨fun b b0 b1 => e b (by omega), e _ (by decide), fun b b0 b1 => e b (by omega), fun b b0 b1 => e b (by omega), e _ (by decide), by rw [e 1320 (by decide)]; exact ⟨rfl, rfl, rfl, rfl⟩, t2⟩
theorem k_M_anyOf {P x r : Int} {law : Option zLaw} {Q : Int → zM → Prop} (hd : 5 ≤ d) (h : zInv zLR μ) (hl : zLk μ x law) (P0 : 0 ≤ P) (P1 : P < 6) (hQ : ∀ ν, zCm μ ν → Q (zanyv (μ 1322) P law r) ν) : zCi X true l d 0 0 y_M_anyOf [(13, 0, 1320), (0, 0, P), (0, 0, x), (0, 0, r)] μ Q := by
  obtain ⟨m0, m1, m2⟩ := h.many P0 P1
  obtain ⟨g0, g1, g2⟩ := h.long
  have hB := h.2.2.2.2.2.2.2.2
  refine c_M_anyOf (a0 := 1320) (d1 := 4) (by omega) ?_
  simp only [Int.reduceAdd]
  rw [zw_of (x := 10 + P) (by omega) (by omega)]
  refine ⟨by omega, c_M_lookAt ?_⟩
  generalize hμ2 : zup (zup (zup (zup (zup (zup μ 1320 30 P) 1320 31 (μ 1322 (10 + P))) 1320 32 x) 1320 33 (-1)) 1320 34 0) 1320 33 r = μ2
  have q30 : μ2 1320 30 = P := by rw [← hμ2]; simp [zup]
  have q31 : μ2 1320 31 = μ 1322 (10 + P) := by rw [← hμ2]; simp [zup]
  have q32 : μ2 1320 32 = x := by rw [← hμ2]; simp [zup]
  have q33 : μ2 1320 33 = r := by rw [← hμ2]; simp [zup]
  have q34 : μ2 1320 34 = 0 := by rw [← hμ2]; simp [zup]
  have q0 : ∀ b : Int, b ≠ 1320 → μ2 b = μ b := fun b hb => by rw [← hμ2, zup_ne hb, zup_ne hb, zup_ne hb, zup_ne hb, zup_ne hb, zup_ne hb]
  have qj : ∀ j : Int, j ≠ 30 → j ≠ 31 → j ≠ 32 → j ≠ 33 → j ≠ 34 → μ2 1320 j = μ 1320 j := fun j j1 j2 j3 j4 j5 => by rw [← hμ2, zup_miss (by omega), zup_miss (by omega), zup_miss (by omega), zup_miss (by omega), zup_miss (by omega), zup_miss (by omega)]
  have r22 := q0 1322 (by decide)
  have e2 : μ2 1322 2 = ((μ 1322 2).toNat : Int) := by rw [r22]; omega
  have e31 : μ2 1320 31 = ((μ 1322 (10 + P)).toNat : Int) := by rw [q31]; omega
  rw [e2]
  refine k_findAny (law := law) (by omega) (by rw [r22]; exact h.rb) q30 P0 P1 e31 (by omega) q34 (hl.2 μ2 r22 q32) (by omega) (fun ν n1 n2 n3 n4 => ?_)
  have sb := zsty_bd (c := fun p g => zcha (zMd (μ2 1322) P ((μ 1322 (10 + P)).toNat : Int) 0 0) law (μ2 1320 33) p g 0 0) (fun _ _ => zcha_bd) (μ 1322 (10 + P)).toNat (μ 1322 2).toNat
  have e5 : ν 1320 31 = ((μ 1322 (10 + P)).toNat : Int) := by rw [n2 31 (by decide) (by decide) (by decide) (by decide)]; exact e31
  have e6 : ν 1322 2 = ((μ 1322 2).toNat : Int) := by rw [n1 1322 (by decide) (by decide)]; exact e2
  have h60 := zmn (m := (μ 1322 (10 + P)).toNat) (G := (μ 1322 2).toNat) (by omega) (by omega)
  rw [e5, e6, ← Int.natCast_mul, zw_of (by omega) (by omega)]
  refine k_M_millionths (by omega) (by omega) (by decide) h60 n4 (by rw [← zhun]; omega) (fun ν2 t1 => ?_)
  rw [r22, q33] at *
  have em : ((μ 1322 (10 + P)).toNat : Int) = μ 1322 (10 + P) := by omega
  rw [em]
  refine hQ ν2 ⟨fun b b0 b1 => ?_, ?_, fun b b0 b1 => ?_, fun b b0 b1 => ?_, ?_, ?_, hB.keep2 (fun b b0 b1 => ?_)⟩
  · rw [t1 b (by omega), n1 b (by omega) (by omega), q0 b (by omega)]
  · rw [t1 _ (by decide), n1 _ (by decide) (by decide), q0 _ (by decide)]
  · rw [t1 b (by omega), n1 b (by omega) (by omega), q0 b (by omega)]
  · rw [t1 b (by omega), n1 b (by omega) (by omega), q0 b (by omega)]
  · rw [t1 _ (by decide), n1 _ (by decide) (by decide), q0 _ (by decide)]
  · have ej : ∀ j : Int, j ≠ 24 → j ≠ 27 → j ≠ 28 → j ≠ 29 → j ≠ 30 → j ≠ 31 → j ≠ 32 → j ≠ 33 → j ≠ 34 → ν2 1320 j = μ 1320 j := fun j j1 j2 j3 j4 j5 j6 j7 j8 j9 => by rw [t1 1320 (by decide), n2 j j1 j2 j3 j4, qj j j5 j6 j7 j8 j9]
    exact ⟨ej 1 (by decide) (by decide) (by decide) (by decide) (by decide) (by decide) (by decide) (by decide) (by decide), ej 7 (by decide) (by decide) (by decide) (by decide) (by decide) (by decide) (by decide) (by decide) (by decide), ej 12 (by decide) (by decide) (by decide) (by decide) (by decide) (by decide) (by decide) (by decide) (by decide), ej 45 (by decide) (by decide) (by decide) (by decide) (by decide) (by decide) (by decide) (by decide) (by decide)⟩
  · rw [t1 b (by omega), n1 b (by omega) (by omega), q0 b (by omega)]
end

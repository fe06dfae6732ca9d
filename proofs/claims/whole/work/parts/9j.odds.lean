/-! odds, digits -/
theorem zeR_congr {cha ch2 : Nat → Nat → Int → Int → Int} {m : Nat} : ∀ G : Nat, (∀ g : Nat, g < G → cha g = ch2 g) → ∀ u : Nat, zeR cha m G u = zeR ch2 m G u
  | 0, _, _ => rfl
  | g + 1, h, u => by
    have ih := zeR_congr (m := m) g (fun g' hg => h g' (by omega))
    show ztot (fun t => zeE (zeR cha m g) (cha g) m t u) (3 ^ m) = ztot (fun t => zeE (zeR ch2 m g) (ch2 g) m t u) (3 ^ m)
    rw [h g (by omega), show zeR cha m g = zeR ch2 m g from funext ih]
theorem zev_cha {δ : Nat → Int → Int} {law : Option zLaw} {wo who : Int} {m G : Nat} (hG : G ≤ 12) : zev δ law wo who m G = if who = -1 then 100 ^ (m * G) - zsty (fun p g => zcha δ law wo p g 0 0) m G else zeU (fun g p s go => zcha δ law wo p g s go) m who.toNat G := by
  unfold zev
  have e1 : zsty (fun p g => zcg δ law wo p g 0 0) m G = zsty (fun p g => zcha δ law wo p g 0 0) m G := zsty_congr G (fun p g _ _ _ hg => by
    unfold zcg
    rw [if_pos (by omega)])
  have e2 : zeU (fun g p s go => zcg δ law wo p g s go) m who.toNat G = zeU (fun g p s go => zcha δ law wo p g s go) m who.toNat G := by
    unfold zeU
    refine ztot_congr _ (fun s _ => ?_)
    rw [zeR_congr (ch2 := fun g p s go => zcha δ law wo p g s go) G (fun g hg => by
      funext p s go
      unfold zcg
      rw [if_pos (by omega)])]
  rw [e1, e2]
section
variable {X : zX} {l : Launch} {d : Nat} {μ : zM}
theorem zCm.of {μ ν : zM} (hB : zBigs μ) (h1 : ∀ b : Int, b ≠ 1320 → ¬ (1331 ≤ b ∧ b ≤ 1341) → ν b = μ b) (h2 : ∀ j : Int, j = 1 ∨ j = 7 ∨ j = 12 ∨ j = 45 → ν 1320 j = μ 1320 j) : zCm μ ν :=
  ⟨fun b b0 b1 => h1 b (by omega) (by omega), h1 _ (by decide) (by decide), fun b b0 b1 => h1 b (by omega) (by omega), fun b b0 b1 => h1 b (by omega) (by omega), h1 _ (by decide) (by decide), ⟨h2 1 (by omega), h2 7 (by omega), h2 12 (by omega), h2 45 (by omega)⟩, hB.keep (fun b b0 b1 => h1 b (by omega) (by omega))⟩
theorem k_M_finds {x y : Int} {m : Nat} {law : Option zLaw} {Q : Int → zM → Prop} (hd : 6 ≤ d) (h : zInv zLR μ) (hl : zLk μ (μ 1322 1) law) (hm : μ 1322 (10 + μ 1322 0) = m)
    (h1 : ∀ G : Nat, y = G → (-1 ≤ x ∧ x < m) → y ≤ μ 1322 2 → ∀ ν, zCm μ ν → ν 1320 30 = μ 1322 0 → ν 1320 31 = m → ν 1320 32 = μ 1322 1 → ν 1320 33 = -1 → ν 1320 34 = 0 → zRn ν 1333 16 (zev (zMd (μ 1322) (μ 1322 0) m 0 0) law (-1) x m G) → Q 1 ν) (h0 : ¬ ((-1 ≤ x ∧ x < m) ∧ 0 ≤ y ∧ y ≤ μ 1322 2) → ∀ ν, zCm μ ν → Q 0 ν) : zCi X true l d 0 0 y_M_finds [(13, 0, 1320), (0, 0, x), (0, 0, y)] μ Q := by
  obtain ⟨u0, u1, u2⟩ := h.use
  obtain ⟨m0, m1, m2⟩ := h.many u1 u2
  obtain ⟨g0, g1, g2⟩ := h.long
  have hB := h.2.2.2.2.2.2.2.2
  refine c_M_finds (a0 := 1320) (d1 := 5) (by omega) (k_lookAtUse (by omega) ⟨u1, u2⟩ ?_)
  rw [hm]
  generalize hμ2 : zup (zup (zup (zup (zup μ 1320 30 (μ 1322 0)) 1320 31 (m : Int)) 1320 32 (μ 1322 1)) 1320 33 (-1)) 1320 34 0 = μ2
  have q30 : μ2 1320 30 = μ 1322 0 := by rw [← hμ2]; simp [zup]
  have q31 : μ2 1320 31 = m := by rw [← hμ2]; simp [zup]
  have q32 : μ2 1320 32 = μ 1322 1 := by rw [← hμ2]; simp [zup]
  have q33 : μ2 1320 33 = -1 := by rw [← hμ2]; simp [zup]
  have q34 : μ2 1320 34 = 0 := by rw [← hμ2]; simp [zup]
  have q0 : ∀ b : Int, b ≠ 1320 → μ2 b = μ b := fun b hb => by rw [← hμ2, zup_ne hb, zup_ne hb, zup_ne hb, zup_ne hb, zup_ne hb]
  have qj : ∀ j : Int, j ≠ 30 → j ≠ 31 → j ≠ 32 → j ≠ 33 → j ≠ 34 → μ2 1320 j = μ 1320 j := fun j j1 j2 j3 j4 j5 => by rw [← hμ2, zup_miss (by omega), zup_miss (by omega), zup_miss (by omega), zup_miss (by omega), zup_miss (by omega)]
  have r22 : μ2 1322 = μ 1322 := q0 _ (by decide)
  have c2 : zCm μ μ2 := zCm.of hB (fun b b0 _ => q0 b b0) (fun j hj => qj j (by omega) (by omega) (by omega) (by omega) (by omega))
  rw [q31, zwl_id (by omega) (by omega)]
  refine k_M_in (fun p1 p2 => ⟨fun c => absurd c (by decide), fun _ => ?_⟩) (fun c => ⟨fun _ => h0 (by omega) μ2 c2, fun q => absurd rfl q⟩)
  simp only [Int.reduceAdd]
  rw [r22]
  refine k_M_in (fun p3 p4 => ⟨fun _ => ?_, fun c => absurd c (by decide)⟩) (fun c => ⟨fun q => absurd rfl q, fun _ => h0 (by omega) μ2 c2⟩)
  obtain ⟨G, hG⟩ : ∃ G : Nat, y = G := ⟨y.toNat, by omega⟩
  have fin : ∀ ν : zM, (∀ b : Int, b ≠ 1320 → ¬ (1331 ≤ b ∧ b ≤ 1341) → ν b = μ2 b) → (∀ j : Int, j ≠ 24 → j ≠ 27 → j ≠ 28 → j ≠ 29 → ν 1320 j = μ2 1320 j) → zRn ν 1333 16 (zev (zMd (μ 1322) (μ 1322 0) m 0 0) law (-1) x m G) → Q 1 ν := fun ν n1 n2 n3 =>
    h1 G hG ⟨by omega, by omega⟩ p4 ν (c2.trans (zCm.of c2.2.2.2.2.2.2 n1 (fun j hj => n2 j (by omega) (by omega) (by omega) (by omega)))) (by rw [n2 30 (by decide) (by decide) (by decide) (by decide)]; exact q30) (by rw [n2 31 (by decide) (by decide) (by decide) (by decide)]; exact q31) (by rw [n2 32 (by decide) (by decide) (by decide) (by decide)]; exact q32) (by rw [n2 33 (by decide) (by decide) (by decide) (by decide)]; exact q33) (by rw [n2 34 (by decide) (by decide) (by decide) (by decide)]; exact q34) n3
  rw [zev_cha (by omega)] at fin
  rw [hG]
  refine ⟨fun ex => ?_, fun ex => ?_⟩
  · obtain ⟨w, hw⟩ : ∃ w : Nat, x = w := ⟨x.toNat, by omega⟩
    rw [if_neg ex] at fin
    rw [hw]
    refine k_findEach (law := law) (m := m) (G := G) (who := w) (by omega) (by rw [r22]; exact h.rb) q30 u1 u2 q31 (by omega) q34 (hl.2 μ2 r22 q32) (by omega) (by omega) (fun ν n1 n2 => ?_)
    rw [r22, q33] at n2
    refine fin ν (fun b b0 b1 => n1.1 b b0 (by omega) (by omega)) n1.2 ?_
    rw [hw, Int.toNat_natCast]
    exact n2
  · rw [if_pos ex] at fin
    refine k_findAny (law := law) (m := m) (by omega) (by rw [r22]; exact h.rb) q30 u1 u2 q31 (by omega) q34 (hl.2 μ2 r22 q32) (by omega) (fun ν n1 n2 n3 n4 => ?_)
    rw [r22, q33] at n4
    exact fin ν (fun b b0 b1 => n1 b b0 (by omega)) n2 n4
/-- the class reckons, ANY or EACH -/
theorem k_C_reckon {x : Int} {m G : Nat} {law : Option zLaw} {Q : zM → Prop} (hd : 6 ≤ d) (h : zInv zLR μ) (hl : zLk μ (μ 1322 1) law) (hm : μ 1322 (10 + μ 1322 0) = m) (hx : -1 ≤ x ∧ x < m) (hG : (G : Int) ≤ μ 1322 2) (hQ : ∀ ν, zCm μ ν → ν 105 2 = G → ν 105 3 = m → zBv ν 130 15 (zev (zMd (μ 1322) (μ 1322 0) m 0 0) law (-1) x m G) → (zCd ν (zMd (μ 1322) (μ 1322 0) m 0 0) ∧ zDb (zMd (μ 1322) (μ 1322 0) m 0 0) ∧ zCL ν law ∧ ν 106 5 = -1) → Q ν) : zCv X true l d 0 0 y_S_lookAround [(12, 0, 0)] μ (fun ν5 => zCv X true l d 0 0 y_Reckoner_reckon [(6, 0, 105), (0, 0, x), (0, 0, (G : Int))] ν5 Q) := by
  obtain ⟨u0, u1, u2⟩ := h.use
  obtain ⟨m0, m1, m2⟩ := h.many u1 u2
  obtain ⟨g0, g1, g2⟩ := h.long
  have hB := h.2.2.2.2.2.2.2.2
  refine k_lookAround (by omega) h (fun ν n1 n2 n3 n4 => ?_)
  rw [hm] at n2
  have db := zMd_db (bs := 0) (al := 0) h.rb u1 u2 (show 0 ≤ (m : Int) by omega) (by omega)
  have cl := hl.1 ν (fun b b0 b1 => n1 b (by omega)) n3
  have B1 : zBigs ν := hB.keep2 (fun b b0 b1 => n1 b (by omega))
  have c1 : zCm μ ν := ⟨fun b b0 b1 => n1 b (by omega), n1 _ (by decide), fun b b0 b1 => n1 b (by omega), fun b b0 b1 => n1 b (by omega), n1 _ (by decide), by rw [n1 1320 (by decide)]; exact ⟨rfl, rfl, rfl, rfl⟩, B1⟩
  refine k_R_reckon (law := law) (m := m) (G := G) hd B1 n2 db cl rfl (by omega) (by omega) (by omega) n4 (fun ν7 k7 e2 e3 v7 => ?_)
  exact hQ ν7 (c1.trans k7.cm) e2 e3 v7 ⟨n2.keep (fun b b0 b1 => k7.1 b (by omega) (by omega) (by omega)), db, cl.keep (fun b hb => k7.1 b (by omega) (by omega) (by omega)), by rw [k7.1 106 (by decide) (by decide) (by decide)]; exact n4⟩
theorem p_odds {Q : Int → Int → zM → Prop} {x y : Int} (h : zInv zLR μ) (hd : 7 ≤ d) (hQ : ∀ v ρ, zInv zLR ρ → Q v v ρ) : zCi X true l d 0 0 y_S_odds [(12, 0, 0), (0, 0, x), (0, 0, y)] μ (fun v ν => zCi X true l d 0 0 y_M_odds [(13, 0, 1320), (0, 0, x), (0, 0, y)] ν (fun w ρ => Q v w ρ)) := by
  obtain ⟨u0, u1, u2⟩ := h.use
  obtain ⟨m0, m1, m2⟩ := h.many u1 u2
  obtain ⟨g0, g1, g2⟩ := h.long
  obtain ⟨f0, f1, f2, f3⟩ := h.force
  obtain ⟨law, hl⟩ := h.law (x := μ 1322 1) (by omega)
  have hl : zLk μ (μ 1322 1) law := hl
  obtain ⟨m, hm⟩ : ∃ m : Nat, μ 1322 (10 + μ 1322 0) = m := ⟨(μ 1322 (10 + μ 1322 0)).toNat, by omega⟩
  have ref : ∀ (v : Int) (ν : zM), zCm μ ν → (∀ G : Nat, y = G → (-1 ≤ x ∧ x < m) → y ≤ μ 1322 2 → v = zmil (zev (zMd (μ 1322) (μ 1322 0) m 0 0) law (-1) x m G) (m * G)) → (¬ ((-1 ≤ x ∧ x < m) ∧ 0 ≤ y ∧ y ≤ μ 1322 2) → v = -1) → zCi X true l d 0 0 y_M_odds [(13, 0, 1320), (0, 0, x), (0, 0, y)] ν (fun w ρ => Q v w ρ) := by
    intro v ν cν hv hv2
    have c2 := cν.trans (zCm.thrown (h.cm cν))
    have er := c2.row
    refine c_M_odds (a0 := 1320) (d1 := 6) (by omega) (k_M_finds (m := m) (law := law) (by omega) (h.cm c2) (by rw [er]; exact hl.cm c2) (by rw [er]; exact hm) (fun G hG hx hy ν3 c3 e30 e31 e32 e33 e34 v3 => ⟨fun c => absurd c (by decide), fun _ => ?_⟩) (fun c ν3 c3 => ⟨fun _ => ?_, fun q => absurd rfl q⟩))
    · rw [er] at v3 hy
      have vb := zev_bd (δ := zMd (μ 1322) (μ 1322 0) m 0 0) (law := law) (wo := -1) (x := x) (m := m) (g := G) (by omega)
      have h60 := zmn (m := m) (G := G) (by omega) (by omega)
      rw [e31, hG, show zw ((m : Int) * G) = ((m * G : Nat) : Int) by rw [← Int.natCast_mul, zw_of (by omega) (by omega)]]
      refine k_M_millionths (by omega) (by omega) (by decide) h60 v3 (by rw [← zhun]; exact vb.2) (fun ν5 s1 => ?_)
      have ev := hv G hG hx hy
      unfold zmil at ev
      rw [← ev]
      exact hQ _ _ (h.cm ((c2.trans c3).trans (zCm.of c3.2.2.2.2.2.2 (fun b b0 b1 => s1 b (by omega)) (fun j hj => by rw [s1 1320 (by decide)]))))
    · rw [er] at c
      rw [hv2 c]
      exact hQ _ _ (h.cm (c2.trans c3))
  refine c_S_odds (a0 := 0) (d1 := 6) (by omega) (k_S_canReckon (by omega) h (fun x0 x1 y0 y1 => ⟨fun _ => ?_, fun c => absurd c (by decide)⟩) (fun c => ⟨fun q => absurd rfl q, fun _ => ref _ _ (zCm.refl h) (fun G a b e => absurd ⟨⟨b.1, by rw [hm]; exact b.2⟩, by omega, e⟩ c) (fun _ => rfl)⟩))
  rw [hm] at x1
  obtain ⟨G, hG⟩ : ∃ G : Nat, y = G := ⟨y.toNat, by omega⟩
  subst hG
  simp only [Int.reduceAdd]
  refine k_C_reckon (m := m) (G := G) (law := law) (by omega) h hl hm ⟨x0, x1⟩ y1 (fun ν7 c7 e2 e3 v7 _ => ?_)
  have vb := zev_bd (δ := zMd (μ 1322) (μ 1322 0) m 0 0) (law := law) (wo := -1) (x := x) (m := m) (g := G) (by omega)
  refine k_R_millionths (by omega) e3 (by omega) e2 (by omega) v7 vb.2 ?_
  refine ref _ _ c7 (fun G' hG' _ _ => ?_) (fun c => absurd ⟨⟨x0, x1⟩, y0, y1⟩ c)
  obtain rfl : G = G' := by omega
  rfl
theorem p_digits {Q : Int → Int → zM → Prop} {x y z : Int} (h : zInv zLR μ) (hd : 7 ≤ d) (hQ : ∀ v ρ, zInv zLR ρ → Q v v ρ) : zCi X true l d 0 0 y_S_digits [(12, 0, 0), (0, 0, x), (0, 0, y), (0, 0, z)] μ (fun v ν => zCi X true l d 0 0 y_M_digits [(13, 0, 1320), (0, 0, x), (0, 0, y), (0, 0, z)] ν (fun w ρ => Q v w ρ)) := by
  obtain ⟨u0, u1, u2⟩ := h.use
  obtain ⟨m0, m1, m2⟩ := h.many u1 u2
  obtain ⟨g0, g1, g2⟩ := h.long
  obtain ⟨f0, f1, f2, f3⟩ := h.force
  obtain ⟨law, hl⟩ := h.law (x := μ 1322 1) (by omega)
  have hl : zLk μ (μ 1322 1) law := hl
  obtain ⟨m, hm⟩ : ∃ m : Nat, μ 1322 (10 + μ 1322 0) = m := ⟨(μ 1322 (10 + μ 1322 0)).toNat, by omega⟩
  have ref : ∀ (v : Int) (ν : zM), zCm μ ν → (∀ G k : Nat, y = G → z = k → k ≤ 14 → (-1 ≤ x ∧ x < m) → y ≤ μ 1322 2 → v = zev (zMd (μ 1322) (μ 1322 0) m 0 0) law (-1) x m G / zpw k % 1000000000) → (¬ (((-1 ≤ x ∧ x < m) ∧ 0 ≤ y ∧ y ≤ μ 1322 2) ∧ 0 ≤ z ∧ z ≤ 14) → v = -1) → zCi X true l d 0 0 y_M_digits [(13, 0, 1320), (0, 0, x), (0, 0, y), (0, 0, z)] ν (fun w ρ => Q v w ρ) := by
    intro v ν cν hv hv2
    have c2 := cν.trans (zCm.thrown (h.cm cν))
    have er := c2.row
    refine c_M_digits (a0 := 1320) (d1 := 6) (by omega) (k_M_in (fun z0 z1 => ⟨fun c => absurd c (by decide), fun _ => k_M_finds (m := m) (law := law) (by omega) (h.cm c2) (by rw [er]; exact hl.cm c2) (by rw [er]; exact hm) (fun G hG hx hy ν3 c3 e30 e31 e32 e33 e34 v3 => ⟨fun c => absurd c (by decide), fun _ => ⟨by omega, ?_⟩⟩) (fun c ν3 c3 => ⟨fun _ => ?_, fun q => absurd rfl q⟩)⟩) (fun c => ⟨fun _ => ?_, fun q => absurd rfl q⟩))
    · rw [er] at v3 hy
      obtain ⟨k, hk⟩ : ∃ k : Nat, z = k := ⟨z.toNat, by omega⟩
      have at' := znum_at v3.1 (k := k) (by omega)
      have dg := v3.1 k (by omega) (by omega)
      rw [v3.2, ← hv G k hG hk (by omega) hx hy] at at'
      simp only [Int.reduceAdd]
      rw [hk, zw_of (by omega) (by omega), at']
      exact hQ _ _ (h.cm (c2.trans c3))
    · rw [er] at c
      rw [hv2 (fun q => c q.1)]
      exact hQ _ _ (h.cm (c2.trans c3))
    · rw [hv2 (fun q => c q.2)]
      exact hQ _ _ (h.cm c2)
  refine c_S_digits (a0 := 0) (d1 := 6) (by omega) (k_S_canReckon (by omega) h (fun x0 x1 y0 y1 => ⟨fun c => absurd c (by decide), fun _ => k_S_within (fun z0 z1 => ⟨fun _ => ?_, fun c => absurd c (by decide)⟩) (fun c => ⟨fun q => absurd rfl q, fun _ => ref _ _ (zCm.refl h) (fun G k a b b2 e f => absurd ⟨by omega, by omega⟩ c) (fun _ => rfl)⟩)⟩) (fun c => ⟨fun _ => ref _ _ (zCm.refl h) (fun G k a b b2 e f => absurd ⟨⟨e.1, by rw [hm]; exact e.2⟩, by omega, f⟩ c) (fun _ => rfl), fun q => absurd rfl q⟩))
  rw [hm] at x1
  obtain ⟨G, hG⟩ : ∃ G : Nat, y = G := ⟨y.toNat, by omega⟩
  subst hG
  simp only [Int.reduceAdd]
  refine k_C_reckon (m := m) (G := G) (law := law) (by omega) h hl hm ⟨x0, x1⟩ y1 (fun ν7 c7 e2 e3 v7 _ => ?_)
  refine k_limbAt (a := 130) (L := 15) v7.1 z0 ?_
  rw [if_pos (by omega)]
  refine ref _ _ c7 (fun G' k hG' hk hk2 _ _ => ?_) (fun c => absurd ⟨⟨⟨x0, x1⟩, y0, y1⟩, z0, z1⟩ c)
  obtain rfl : G = G' := by omega
  have at' := znum_at v7.1.dig (k := k) (by omega)
  rw [v7.2] at at'
  rw [hk]
  exact at'
end

/-! the reference's isSo, chanceOf -/
/-- the reference's law -/
def zML (μ : zM) (law : Option zLaw) : Prop := match law with
  | none => μ 1320 32 = -1
  | some w => 0 ≤ μ 1320 32 ∧ μ 1320 32 < 4 ∧ w.1 ≤ 12 ∧ (∀ c : Int, 0 ≤ c → c < w.1 → w.2.1 c = 0 ∨ w.2.1 c = 1) ∧ zLM (fun i => μ 1322 (480 + 900 * μ 1320 32 + i)) w.1 w.2.1 w.2.2.1 w.2.2.2 ∧ zLW w.1 w.2.2.1 w.2.2.2
/-- what the law's steps change -/
def zfr (μ ν : zM) : Prop := (∀ b : Int, b ≠ 1320 → b ≠ 1332 → ν b = μ b) ∧ ∀ j : Int, j ≠ 27 → j ≠ 28 → j ≠ 29 → ν 1320 j = μ 1320 j
theorem zfr.trans {μ ν ρ : zM} (h : zfr μ ν) (h2 : zfr ν ρ) : zfr μ ρ := ⟨fun b b0 b1 => (h2.1 b b0 b1).trans (h.1 b b0 b1), fun j j0 j1 j2 => (h2.2 j j0 j1 j2).trans (h.2 j j0 j1 j2)⟩
theorem zfr.refl (μ : zM) : zfr μ μ := ⟨fun _ _ _ => rfl, fun _ _ _ _ => rfl⟩
section
variable {X : zX} {l : Launch} {d : Nat} {μ : zM} {Q : Int → zM → Prop}
theorem k_isSo {F G : Int → Int} {wt ws : zTw} {n : Nat} {c A : Int} {κ : Int → Int} (hd : 2 ≤ d) (hA : μ 1320 24 = A) (A0 : 480 ≤ A) (A1 : A ≤ 3180) (hκ : ∀ q : Int, 0 ≤ q → q < 900 → μ 1322 (A + q) = κ q) (hL : zLM κ n G wt ws) (hW : zLW n wt ws) (hn : n ≤ 12) (gF : zGF F) (hF : ∀ q : Int, 0 ≤ q → q < 12 → μ 1331 (q + 1) = F q) (c0 : 0 ≤ c) (c1 : c < n)
    (h1 : ∀ v ν, zfr μ ν → zww wt ws F c = some v → ν 1320 29 = v → Q 1 ν) (h0 : ∀ ν, zfr μ ν → zww wt ws F c = none → Q 0 ν) : zCi X true l d 0 0 y_M_isSo [(13, 0, 1320), (0, 0, A + 2 + 8 * c)] μ Q := by
  obtain ⟨x1, ⟨x3, x4, x5, x6⟩, ⟨Ds, hDs, x7⟩, x8, x9⟩ := hL.2 c c0 c1
  have w3 : zw (A + 2 + 8 * c + 3) = A + (2 + 8 * c + 3) := by rw [zw_of (by omega) (by omega)]; omega
  have w4 : zw (A + 2 + 8 * c + 4) = A + (2 + 8 * c + 4) := by rw [zw_of (by omega) (by omega)]; omega
  have w5 : zw (A + 2 + 8 * c + 5) = A + (2 + 8 * c + 5) := by rw [zw_of (by omega) (by omega)]; omega
  have w6 : zw (A + 2 + 8 * c + 6) = A + (2 + 8 * c + 6) := by rw [zw_of (by omega) (by omega)]; omega
  have r3 := hκ (2 + 8 * c + 3) (by omega) (by omega)
  have r4 := hκ (2 + 8 * c + 4) (by omega) (by omega)
  have r5 := hκ (2 + 8 * c + 5) (by omega) (by omega)
  have r6 := hκ (2 + 8 * c + 6) (by omega) (by omega)
  have s59 : ∀ ν : zM, zfr μ ν → wt F c = some 1 → zE X true l d 0 0 y_M_isSo 59 [some (13, 0, 1320), some (0, 0, A + 2 + 8 * c)] [] ν (zri Q) := by
    intro ν hν ht
    have e2 : ν 1322 = μ 1322 := hν.1 _ (by decide) (by decide)
    have e24 : ν 1320 24 = A := by rw [hν.2 24 (by decide) (by decide) (by decide)]; exact hA
    have hw : zww wt ws F c = ws F c := by unfold zww; rw [if_pos ht]
    refine s_M_isSo_59 (a0 := 1320) (d1 := 1) (by omega) ?_
    simp only [Int.reduceAdd, w3, w4]
    rw [e2, r3, r4]
    refine ⟨by omega, by omega, k_reckonAll (a0 := 1320) (κ := κ) (by omega) (by omega) (fun q q0 q1 => ?_) ((x7 F gF).congr (fun s _ _ => ⟨rfl, rfl⟩) (fun q q0 q1 => ?_)) hDs x3 x4 (fun ν2 m1 m2 m3 m4 => ?_)⟩
    · rw [e24]; show ν 1322 (A + q) = κ q; rw [e2]; exact hκ q q0 q1
    · show ν 1331 (q + 1) = F q; rw [hν.1 _ (by decide) (by decide)]; exact hF q q0 q1
    · have hfr : zfr μ (zup ν2 1320 29 (ν2 1320 28)) := hν.trans ⟨fun b b0 b1 => by rw [zup_ne b0]; exact m1 b b0 b1, fun j j0 j1 j2 => by rw [zup_miss (by omega)]; exact m2 j j0 j1⟩
      have e27 : zup ν2 1320 29 (ν2 1320 28) 1320 27 = ν2 1320 27 := zup_miss (by decide)
      rw [e27]
      cases hs : ws F c with
      | none =>
        have z := m3 hs
        rw [if_pos (by omega)]
        exact ⟨Or.inl rfl, h0 _ hfr (by rw [hw]; exact hs)⟩
      | some v =>
        obtain ⟨z1, z2⟩ := m4 v hs
        rw [if_neg (by omega)]
        exact ⟨Or.inr rfl, h1 v _ hfr (by rw [hw]; exact hs) (by rw [zup_hit]; exact z2)⟩
  refine c_M_isSo (a0 := 1320) (d1 := 1) (by omega) ?_
  simp only [Int.reduceAdd, w5, w6]
  rw [r5, r6]
  refine ⟨by omega, by omega, fun le => s59 μ (zfr.refl μ) (x9 le F), fun lt => ⟨by omega, by omega, ?_⟩⟩
  obtain ⟨Dt, hDt, x8'⟩ := x8 (by omega)
  refine k_reckonAll (a0 := 1320) (κ := κ) (by omega) (by omega) (fun q q0 q1 => ?_) ((x8' F gF).congr (fun s _ _ => ⟨rfl, rfl⟩) (fun q q0 q1 => ?_)) hDt x5 x6 (fun ν2 m1 m2 m3 m4 => ?_)
  · rw [hA]; exact hκ q q0 q1
  · exact hF q q0 q1
  · have hfr : zfr μ ν2 := ⟨m1, fun j j0 j1 _ => m2 j j0 j1⟩
    cases ht : wt F c with
    | none =>
      have z := m3 ht
      exact ⟨fun _ => h0 _ hfr (by unfold zww; rw [ht, if_neg (by intro q; cases q)]), fun q => absurd q (by omega)⟩
    | some v =>
      obtain ⟨z1, z2⟩ := m4 v ht
      rw [z1, z2, zcmp_e]
      refine ⟨fun q => absurd rfl q, fun _ => ⟨fun q => s59 ν2 hfr ?_, fun q => h0 _ hfr ?_⟩⟩
      · have := (hW F c v gF c0 c1).2 ht
        rw [ht]
        congr 1
        omega
      · unfold zww
        rw [ht, if_neg]
        intro q2
        injection q2 with q2
        omega
theorem k_M_chanceOf {p g s go al P m bs : Int} {law : Option zLaw} (hd : 3 ≤ d) (hR : zRB (μ 1322)) (hP : μ 1320 30 = P) (P0 : 0 ≤ P) (P1 : P < 6) (hm : μ 1320 31 = m) (m0 : 0 ≤ m) (m1 : m ≤ 5) (hb : μ 1320 34 = bs) (hL : zML μ law) (p0 : 0 ≤ p) (p1 : p < 5) (g0 : 0 ≤ g) (g1 : g < 12)
    (hQ : ∀ ν, (∀ b : Int, b ≠ 1320 → b ≠ 1331 → b ≠ 1332 → ν b = μ b) → (∀ j : Int, j ≠ 24 → j ≠ 27 → j ≠ 28 → j ≠ 29 → ν 1320 j = μ 1320 j) → Q (zcha (zMd (μ 1322) P m bs al) law (μ 1320 33) p g s go) ν) : zCi X true l d 0 0 y_M_chanceOf [(13, 0, 1320), (0, 0, p), (0, 0, g), (0, 0, s), (0, 0, go), (0, 0, al)] μ Q := by
  have hD := zMd_db (bs := bs) (al := al) hR P0 P1 m0 m1
  have d0 : zMd (μ 1322) P m bs al 0 p = μ 1322 (40 + 10 * P + 2 * p) := rfl
  have d1' : zMd (μ 1322) P m bs al 1 p = μ 1322 (41 + 10 * P + 2 * p) := rfl
  have bd := (hD.1 p p0 p1).1
  rw [d0] at bd
  have w1 : zw (zw (40 + zw (10 * P)) + zw (2 * p)) = 40 + 10 * P + 2 * p := by rw [zw_of (x := 10 * P) (by omega) (by omega), zw_of (x := 40 + 10 * P) (by omega) (by omega), zw_of (x := 2 * p) (by omega) (by omega), zw_of (by omega) (by omega)]
  have w2 : zw (40 + 10 * P + 2 * p + 1) = 41 + 10 * P + 2 * p := by rw [zw_of (by omega) (by omega)]; omega
  unfold zcha at hQ
  rw [d0, d1'] at hQ
  refine c_M_chanceOf (a0 := 1320) (d1 := 2) (by omega) ?_
  simp only [Int.reduceAdd, hP, w1, w2]
  refine ⟨by omega, fun le => ⟨fun nl => ?_, fun el => ?_⟩, fun gt => ⟨by omega, fun n2 => ?_, fun e2 => ⟨by omega, fun lt => ?_, fun nlt => ?_⟩⟩⟩
  · rw [if_neg (by omega), if_neg (by omega)] at hQ
    cases law with
    | none => exact absurd hL nl
    | some w =>
      obtain ⟨n, G, wt, ws⟩ := w
      obtain ⟨l0, l1, l2, l2', l3, l4⟩ := hL
      dsimp only at l2 l2' l3 l4 hQ
      refine k_tellOf (by omega) hR hP P0 P1 hm m0 m1 hb p0 p1 g0 g1 (fun ν q1 q2 => ?_)
      have gF := zfc_gf (s := s) (go := go) hD p0 p1 g0 g1
      generalize hF : zfc (zMd (μ 1322) P m bs al) p g s go = F at *
      have e32 : ν 1320 32 = μ 1320 32 := by rw [q1 _ (by decide)]
      have eA : zw (480 + zw (900 * ν 1320 32)) = 480 + 900 * μ 1320 32 := by rw [e32, zw_of (x := 900 * μ 1320 32) (by omega) (by omega), zw_of (by omega) (by omega)]
      rw [eA]
      generalize hA : 480 + 900 * μ 1320 32 = A at *
      have A0 : 480 ≤ A := by omega
      have A1 : A ≤ 3180 := by omega
      have wz : ∀ c v : Int, 0 ≤ c → c < n → zww wt ws F c = some v → zb9 v := fun c v h0 h1 hv => by
        unfold zww at hv
        split at hv
        · exact (l4 F c v gF h0 h1).1 hv
        · cases hv
      have base : ∀ ν' : zM, zfr (zup ν 1320 24 A) ν' → (∀ b : Int, b ≠ 1320 → b ≠ 1331 → b ≠ 1332 → ν' b = μ b) ∧ (∀ j : Int, j ≠ 24 → j ≠ 27 → j ≠ 28 → j ≠ 29 → ν' 1320 j = μ 1320 j) ∧ ν' 1320 24 = A ∧ ν' 1331 = ν 1331 := fun ν' h => by
        refine ⟨fun b b0 b1 b2 => ?_, fun j j0 j1 j2 j3 => ?_, ?_, ?_⟩
        · rw [h.1 b b0 b2, zup_ne b0, q1 b b1]
        · rw [h.2 j j1 j2 j3, zup_miss (by omega), q1 _ (by decide)]
        · rw [h.2 24 (by decide) (by decide) (by decide), zup_hit]
        · rw [h.1 _ (by decide) (by decide), zup_ne (by decide)]
      have loop : ∀ k c : Nat, c + k = n → ∀ ν' : zM, zfr (zup ν 1320 24 A) ν' → zE X true l d 0 0 y_M_chanceOf 106 [some (13, 0, 1320), none, none, none, none, none, none, some (1, 0, (zcs G (zww wt ws F) (μ 1320 33) c).1), none, some (0, 0, (zcs G (zww wt ws F) (μ 1320 33) c).2.2), some (1, 0, (zcs G (zww wt ws F) (μ 1320 33) c).2.1), none, some (0, 0, (c : Int)), none, none] [] ν' (zri Q) := by
        intro k
        induction k with
        | zero =>
          intro c hc ν' hν
          obtain rfl : c = n := by omega
          obtain ⟨t1, t2, t3, t4⟩ := base ν' hν
          have e2 : ν' 1322 = μ 1322 := t1 _ (by decide) (by decide) (by decide)
          obtain ⟨b1, b2, b3, b4, b5⟩ := zcs_bd (g := G) (wo := μ 1320 33) c wz
          unfold zb9 at b1
          have en : μ 1322 (A + 1) = c := l3.1
          refine s_M_chanceOf_106 (a0 := 1320) (d1 := 2) (by omega) ?_
          simp only [Int.reduceAdd]
          rw [t3, zw_of (x := A + 1) (by omega) (by omega), e2]
          have := hQ ν' t1 t2
          unfold zclp at this
          rw [zwl_id (by omega) (by omega), zcmp_ge]
          generalize (zcs G (zww wt ws F) (μ 1320 33) c).1 - (zcs G (zww wt ws F) (μ 1320 33) c).2.1 = z at *
          refine ⟨by omega, fun _ => ⟨fun ge => ?_, fun lt => ?_⟩, fun q => absurd (by omega) q⟩
          · rw [if_neg (by omega)] at this
            by_cases z1 : 100 < z
            · rw [if_pos z1] at this
              rw [if_neg (by rw [zcmp_le]; omega)]
              exact this
            · rw [if_neg z1] at this
              rw [if_pos (by rw [zcmp_le]; omega), zw_of (by omega) (by omega)]
              exact this
          · rw [if_pos (by omega)] at this
            exact this
        | succ k ih =>
          intro c hc ν' hν
          obtain ⟨t1, t2, t3, t4⟩ := base ν' hν
          have e2 : ν' 1322 = μ 1322 := t1 _ (by decide) (by decide) (by decide)
          obtain ⟨b1, b2, b3, b4, b5⟩ := zcs_bd (g := G) (wo := μ 1320 33) c (fun q v q0 q1 => wz q v q0 (by omega))
          unfold zb9 at b1
          have en : μ 1322 (A + 1) = n := l3.1
          have hd0 := (l3.2 c (by omega) (by omega)).1
          have hg := l2' c (by omega) (by omega)
          have w8 : zw (zw (A + 2) + zw (8 * (c : Int))) = A + 2 + 8 * c := by rw [zw_of (x := A + 2) (by omega) (by omega), zw_of (x := 8 * (c : Int)) (by omega) (by omega), zw_of (by omega) (by omega)]
          refine s_M_chanceOf_106 (a0 := 1320) (d1 := 2) (by omega) ?_
          simp only [Int.reduceAdd]
          rw [t3, zw_of (x := A + 1) (by omega) (by omega), e2, w8, zw_of (x := (c : Int) + 1) (by omega) (by omega), zw_of (x := (zcs G (zww wt ws F) (μ 1320 33) c).2.2 + 1) (by omega) (by omega), Int.add_zero, zwl_id (x := (zcs G (zww wt ws F) (μ 1320 33) c).2.1) (by omega) (by omega)]
          have hrow : ∀ ν5 : zM, zfr ν' ν5 → ν5 1322 (A + 2 + 8 * c) = 1 - G c := fun ν5 h5 => by
            rw [h5.1 _ (by decide) (by decide), e2, show A + 2 + 8 * (c : Int) = A + (2 + 8 * c) by omega]
            exact hd0
          refine ⟨by omega, fun q => absurd q (by omega), fun _ => k_isSo (κ := fun i => μ 1322 (A + i)) (by omega) t3 A0 A1 (fun q _ _ => by rw [e2]) l3 l4 l2 gF (fun q q0 q1 => by rw [t4]; exact q2 q q0 q1) (by omega) (by omega) (fun v ν5 h5 hv h29 => ?_) (fun ν5 h5 hv => ?_)⟩
          · have nx := ih (c + 1) (by omega) ν5 (hν.trans h5)
            have e33 : ν5 1320 33 = μ 1320 33 := by rw [h5.2 33 (by decide) (by decide) (by decide), t2 33 (by decide) (by decide) (by decide) (by decide)]
            have vb := wz c v (by omega) (by omega) hv
            unfold zb9 at vb
            rw [hrow ν5 h5, e33, h29]
            refine ⟨by omega, fun hg1 => ⟨fun q => absurd q (by decide), fun _ => ⟨fun ew => ?_, fun nw => ⟨fun le => ?_, fun gt => ?_⟩⟩⟩, fun hg0 => ?_⟩
            · rw [zcs_s0 (hg.resolve_right (by omega)), if_pos ew, Int.add_zero] at nx
              exact nx
            · rw [zcmp_le] at le
              rw [zcs_s0 (hg.resolve_right (by omega)), if_neg nw, hv] at nx
              dsimp only [Option.getD_some] at nx
              rw [if_neg (by omega), Int.add_zero] at nx
              exact nx
            · rw [zcmp_le] at gt
              rw [zcs_s0 (hg.resolve_right (by omega)), if_neg nw, hv] at nx
              dsimp only [Option.getD_some] at nx
              rw [if_pos (by omega)] at nx
              rw [zwl_id (by omega) (by omega)]
              exact nx
            · rw [zcs_s1 (hg.resolve_left (by omega)), hv] at nx
              rw [if_neg (by decide)]
              exact nx
          · have nx := ih (c + 1) (by omega) ν5 (hν.trans h5)
            rw [hrow ν5 h5]
            refine ⟨by omega, fun hg1 => ⟨fun _ => ?_, fun q => absurd rfl q⟩, fun hg0 => ?_⟩
            · rw [zcs_s0 (hg.resolve_right (by omega)), hv] at nx
              dsimp only [Option.getD_none] at nx
              simp only [Int.lt_irrefl, ite_false, ite_self, Int.add_zero] at nx
              exact nx
            · rw [zcs_s1 (hg.resolve_left (by omega)), hv] at nx
              rw [if_pos rfl]
              exact nx
      exact loop n 0 (by omega) _ (zfr.refl _)
  · rw [if_neg (by omega), if_neg (by omega)] at hQ
    cases law with
    | none => exact hQ μ (fun _ _ _ _ => rfl) (fun _ _ _ _ _ => rfl)
    | some w =>
      have := hL.1
      omega
  · rw [if_pos (by omega)] at hQ
    exact hQ μ (fun _ _ _ _ => rfl) (fun _ _ _ _ _ => rfl)
  · rw [if_neg (by omega), if_pos e2, if_pos lt] at hQ
    exact hQ μ (fun _ _ _ _ => rfl) (fun _ _ _ _ _ => rfl)
  · rw [if_neg (by omega), if_pos e2, if_neg nlt] at hQ
    exact hQ μ (fun _ _ _ _ => rfl) (fun _ _ _ _ _ => rfl)
end

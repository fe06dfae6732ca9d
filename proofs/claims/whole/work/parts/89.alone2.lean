/-! alone: the pair -/
section
variable {X : zX} {l : Launch} {d : Nat} {μ : zM}
theorem k_S_canReckon {x y : Int} {Q : Int → zM → Prop} (hd : 4 ≤ d) (h : zInv zLR μ) (h1 : -1 ≤ x → x < μ 1322 (10 + μ 1322 0) → 0 ≤ y → y ≤ μ 1322 2 → Q 1 μ) (h0 : ¬ ((-1 ≤ x ∧ x < μ 1322 (10 + μ 1322 0)) ∧ 0 ≤ y ∧ y ≤ μ 1322 2) → Q 0 μ) : zCi X true l d 0 0 y_S_canReckon [(12, 0, 0), (0, 0, x), (0, 0, y)] μ Q := by
  obtain ⟨u0, u1, u2⟩ := h.use
  obtain ⟨m0, m1, m2⟩ := h.many u1 u2
  obtain ⟨g0, g1, g2⟩ := h.long
  refine c_S_canReckon (a0 := 0) (d1 := 3) (by omega) ?_
  simp only [Int.reduceAdd]
  rw [g0]
  refine ⟨fun e => k_S_within (fun p q => ⟨fun c => absurd c (by decide), fun _ => h1 (by omega) (by omega) p q⟩) (fun c => ⟨fun _ => h0 (by omega), fun q => absurd rfl q⟩), fun e => k_S_isThere (by omega) h (fun p q => ⟨fun c => absurd c (by decide), fun _ => ?_⟩) (fun c => ⟨fun _ => h0 (by omega), fun q => absurd rfl q⟩)⟩
  rw [g0]
  exact k_S_within (fun p2 q2 => ⟨fun c => absurd c (by decide), fun _ => h1 (by omega) q p2 q2⟩) (fun c => ⟨fun _ => h0 (by omega), fun q => absurd rfl q⟩)
end
/-- alone by either data -/
theorem zal_cha {ρ : Int → Int} {P m p g wo : Int} {law : Option zLaw} : zcha (zMd ρ P m 0 1) law wo p g 0 0 = zcha (zalt (zalt (zMd ρ P m 0 0) 8) 10) law wo p g 0 0 := by
  refine zcha_ext rfl rfl (zfc_ext rfl ?_ ?_ ?_ rfl rfl rfl rfl)
  · show zand (if (1 : Int) = 0 then ρ (100 + 10 * P + p) else 0) (zoth m p) = zand (if (10 : Int) = 7 then 31 else if (10 : Int) = 8 then 0 else (if (8 : Int) = 7 then 31 else if (8 : Int) = 8 then 0 else (if (0 : Int) = 0 then ρ (100 + 10 * P + p) else 0))) (zoth m p)
    rfl
  · rfl
  · rfl
/-- how ALONE stands to the class's number -/
theorem zal_two {c : Int → Int → Int} {who : Int} {m G h : Nat} (cb : ∀ p g, 0 ≤ c p g ∧ c p g ≤ 100) (hw : who = -1 ∧ h = m ∨ ((0 ≤ who ∧ who < m) ∧ h = 1)) : zalp c who G m ≤ 100 ^ (h * G) ∧ 100 ^ (m * G) - zsty (zcn c who) m G = (100 ^ (h * G) - zalp c who G m) * 100 ^ ((m - h) * G) := by
  have sb := zsty_bd (zcn_bd (who := who) cb) m G
  rcases hw with ⟨w1, w2⟩ | ⟨⟨w1, w3⟩, w2⟩
  · subst w1 w2
    have e := zalp_all (c := c) (G := G) h
    rw [e] at sb ⊢
    exact ⟨sb.2, by rw [Nat.sub_self, Nat.zero_mul]; simp⟩
  · obtain ⟨w, rfl⟩ : ∃ w : Nat, who = w := ⟨who.toNat, by omega⟩
    subst w2
    have e := (zalp_one (c := c) (G := G) (w := w) m).2 (by omega)
    have p0 : (0 : Int) < 100 ^ G := Int.pow_pos (by decide)
    have p1 : (0 : Int) < 100 ^ ((m - 1) * G) := Int.pow_pos (by decide)
    have em : (100 : Int) ^ (m * G) = 100 ^ ((m - 1) * G) * 100 ^ G := by
      rw [← Int.pow_add, ← Nat.succ_mul]; congr 2; omega
    rw [em, ← Int.mul_assoc] at e
    have e2 : zsty (zcn c w) m G = zalp c w G m * 100 ^ ((m - 1) * G) := Int.eq_of_mul_eq_mul_right (by omega) e
    rw [Nat.one_mul, em, e2]
    refine ⟨?_, by grind⟩
    rw [e2, em] at sb
    refine Decidable.byContradiction fun q => ?_
    have := Int.mul_lt_mul_of_pos_right (Int.not_le.mp q) p1
    have := sb.2
    rw [Int.mul_comm (100 ^ ((m - 1) * G)) (100 ^ G)] at this
    omega
section
variable {X : zX} {l : Launch} {d : Nat} {μ : zM} {Q : Int → Int → zM → Prop}
theorem zBigs.any {μ ν : zM} {a b c : Int} (hB : zBigs μ) (n1 : ∀ b : Int, 121 ≤ b ∧ b < 1320 ∧ ¬ (126 ≤ b ∧ b ≤ 131) → ν b = μ b) (n6 : zBv ν 126 15 a) (n7 : zBv ν 128 15 b) (n8 : zBv ν 130 15 c) : zBigs ν := by
  obtain ⟨⟨b1, b2, b3, b4, b5, b6⟩, b7⟩ := hB
  refine ⟨⟨fun s a b => ⟨(b1 s a b).1.keep (n1 _ (by omega)) (n1 _ (by omega)), (b1 s a b).2.keep (n1 _ (by omega)) (n1 _ (by omega))⟩, ⟨b2.1.keep (n1 _ (by decide)) (n1 _ (by decide)), n6.1, n7.1, n8.1, b2.2.2.2.2.keep (n1 _ (by decide)) (n1 _ (by decide))⟩, fun n a b => ⟨(b3 n a b).1.keep (n1 _ (by omega)) (n1 _ (by omega)), (b3 n a b).2.1.keep (n1 _ (by omega)) (n1 _ (by omega)), (b3 n a b).2.2.1.keep (n1 _ (by omega)) (n1 _ (by omega)), (b3 n a b).2.2.2.keep (n1 _ (by omega)) (n1 _ (by omega))⟩, b4.keep (n1 _ (by decide)) (n1 _ (by decide)), b5.keep (n1 _ (by decide)) (n1 _ (by decide)), b6.keep (n1 _ (by decide)) (n1 _ (by decide))⟩, fun k hk => ?_⟩
  rw [n1 _ (by omega), n1 _ (by omega), n1 _ (by omega)]
  exact b7 k hk
theorem p_alone {x y : Int} (h : zInv zLR μ) (hd : 6 ≤ d) (hQ : ∀ v ρ, zInv zLR ρ → Q v v ρ) : zCi X true l d 0 0 y_S_alone [(12, 0, 0), (0, 0, x), (0, 0, y)] μ (fun v ν => zCi X true l d 0 0 y_M_alone [(13, 0, 1320), (0, 0, x), (0, 0, y)] ν (fun w ρ => Q v w ρ)) := by
  obtain ⟨u0, u1, u2⟩ := h.use
  obtain ⟨m0, m1, m2⟩ := h.many u1 u2
  obtain ⟨g0, g1, g2⟩ := h.long
  obtain ⟨f0, f1, f2, f3⟩ := h.force
  obtain ⟨law, hl⟩ := h.law (x := μ 1322 1) (by omega)
  have hl : zLk μ (μ 1322 1) law := hl
  have hB := h.2.2.2.2.2.2.2.2
  obtain ⟨m, hm⟩ : ∃ m : Nat, μ 1322 (10 + μ 1322 0) = m := ⟨(μ 1322 (10 + μ 1322 0)).toNat, by omega⟩
  -- the reference, whatever the class answered
  have ref : ∀ (v : Int) (ν : zM), zCm μ ν → (∀ (G hh : Nat), y = G → (x = -1 ∧ hh = m ∨ ((0 ≤ x ∧ x < m) ∧ hh = 1)) → y ≤ μ 1322 2 → v = zmil (100 ^ (hh * G) - zalp (fun p g => zcha (zMd (μ 1322) (μ 1322 0) m 0 1) law (-1) p g 0 0) x G m) (hh * G)) → (¬ ((-1 ≤ x ∧ x < m) ∧ 0 ≤ y ∧ y ≤ μ 1322 2) → v = -1) → zCi X true l d 0 0 y_M_alone [(13, 0, 1320), (0, 0, x), (0, 0, y)] ν (fun w ρ => Q v w ρ) := by
    intro v ν cν hv hv2
    have c2 := cν.trans (zCm.thrown (h.cm cν))
    have er := c2.row
    refine c_M_alone (a0 := 1320) (d1 := 5) (by omega) (k_lookAtUse (by omega) (by rw [er]; exact ⟨u1, u2⟩) ?_)
    rw [er, hm]
    generalize hμ2 : zup (zup (zup (zup (zup (zup ν 1320 0 0) 1320 30 (μ 1322 0)) 1320 31 (m : Int)) 1320 32 (μ 1322 1)) 1320 33 (-1)) 1320 34 0 = μ2
    have q30 : μ2 1320 30 = μ 1322 0 := by rw [← hμ2]; simp [zup]
    have q31 : μ2 1320 31 = m := by rw [← hμ2]; simp [zup]
    have q32 : μ2 1320 32 = μ 1322 1 := by rw [← hμ2]; simp [zup]
    have q33 : μ2 1320 33 = -1 := by rw [← hμ2]; simp [zup]
    have q34 : μ2 1320 34 = 0 := by rw [← hμ2]; simp [zup]
    have q0 : ∀ b : Int, b ≠ 1320 → μ2 b = ν b := fun b hb => by rw [← hμ2, zup_ne hb, zup_ne hb, zup_ne hb, zup_ne hb, zup_ne hb, zup_ne hb]
    have qj : ∀ j : Int, j ≠ 0 → j ≠ 30 → j ≠ 31 → j ≠ 32 → j ≠ 33 → j ≠ 34 → μ2 1320 j = ν 1320 j := fun j j0 j1 j2 j3 j4 j5 => by rw [← hμ2, zup_miss (by omega), zup_miss (by omega), zup_miss (by omega), zup_miss (by omega), zup_miss (by omega), zup_miss (by omega)]
    have r22 : μ2 1322 = μ 1322 := by rw [q0 _ (by decide), cν.row]
    have inv : ∀ ρ : zM, (∀ b : Int, b ≠ 1320 → ¬ (1331 ≤ b ∧ b ≤ 1335) → ρ b = μ2 b) → (∀ j : Int, j ≠ 24 → j ≠ 27 → j ≠ 28 → j ≠ 29 → ρ 1320 j = μ2 1320 j) → zInv zLR ρ := fun ρ p1 p2 => by
      have ej : ∀ j : Int, j ≠ 0 → j ≠ 24 → j ≠ 27 → j ≠ 28 → j ≠ 29 → j ≠ 30 → j ≠ 31 → j ≠ 32 → j ≠ 33 → j ≠ 34 → ρ 1320 j = ν 1320 j := fun j j0 j1 j2 j3 j4 j5 j6 j7 j8 j9 => by rw [p2 j j1 j2 j3 j4, qj j j0 j5 j6 j7 j8 j9]
      have eb : ∀ b : Int, b ≠ 1320 → ¬ (1331 ≤ b ∧ b ≤ 1335) → ρ b = ν b := fun b b0 b1 => by rw [p1 b b0 b1, q0 b b0]
      exact h.cm (cν.trans ⟨fun b b0 b1 => eb b (by omega) (by omega), eb _ (by decide) (by decide), fun b b0 b1 => eb b (by omega) (by omega), fun b b0 b1 => eb b (by omega) (by omega), eb _ (by decide) (by decide), ⟨ej 1 (by decide) (by decide) (by decide) (by decide) (by decide) (by decide) (by decide) (by decide) (by decide) (by decide), ej 7 (by decide) (by decide) (by decide) (by decide) (by decide) (by decide) (by decide) (by decide) (by decide) (by decide), ej 12 (by decide) (by decide) (by decide) (by decide) (by decide) (by decide) (by decide) (by decide) (by decide) (by decide), ej 45 (by decide) (by decide) (by decide) (by decide) (by decide) (by decide) (by decide) (by decide) (by decide) (by decide)⟩, cν.2.2.2.2.2.2.keep2 (fun b b0 b1 => eb b (by omega) (by omega))⟩)
    have no : ∀ w : Int, v = w → Q v w μ2 := fun w e => by rw [e]; exact hQ _ _ (inv μ2 (fun _ _ _ => rfl) (fun _ _ _ _ _ => rfl))
    rw [q31, zwl_id (by omega) (by omega)]
    refine k_M_in (fun p1 p2 => ⟨fun c => absurd c (by decide), fun _ => ?_⟩) (fun c => ⟨fun _ => no _ (hv2 (by omega)), fun q => absurd rfl q⟩)
    simp only [Int.reduceAdd]
    rw [r22]
    refine k_M_in (fun p3 p4 => ⟨fun _ => ?_, fun c => absurd c (by decide)⟩) (fun c => ⟨fun q => absurd rfl q, fun _ => no _ (hv2 (by omega))⟩)
    obtain ⟨G, hG⟩ : ∃ G : Nat, y = G := ⟨y.toNat, by omega⟩
    obtain ⟨hh, hw⟩ : ∃ hh : Nat, x = -1 ∧ hh = m ∨ ((0 ≤ x ∧ x < m) ∧ hh = 1) := by
      by_cases e : x = -1
      · exact ⟨m, Or.inl ⟨e, rfl⟩⟩
      · exact ⟨1, Or.inr ⟨by omega, rfl⟩⟩
    have cb : ∀ p g : Int, 0 ≤ zcha (zMd (μ 1322) (μ 1322 0) m 0 1) law (-1) p g 0 0 ∧ zcha (zMd (μ 1322) (μ 1322 0) m 0 1) law (-1) p g 0 0 ≤ 100 := fun p g => zcha_bd
    have two := zal_two (c := fun p g => zcha (zMd (μ 1322) (μ 1322 0) m 0 1) law (-1) p g 0 0) (G := G) cb hw
    have h60 : hh * G ≤ 60 := by
      have := zmn (m := m) (G := G) (by omega) (by omega)
      rcases hw with ⟨_, e⟩ | ⟨_, e⟩
      · rw [e]; exact this
      · rw [e]; omega
    rw [hG]
    refine k_findAlone (law := law) (h := hh) (by omega) (by rw [r22]; exact h.rb) q30 u1 u2 q31 (by omega) q34 (hl.2 μ2 r22 q32) (by omega) (by omega) (by rw [r22, q33]; exact two.1) (fun ν3 t1 t2 t3 => ?_)
    rw [r22, q33] at t3
    have e31 : ν3 1320 31 = m := by rw [t2 31 (by decide) (by decide) (by decide) (by decide)]; exact q31
    have ew : zw ((if ¬ x = -1 then (1 : Int) else ν3 1320 31) * G) = ((hh * G : Nat) : Int) := by
      rw [e31]
      rcases hw with ⟨w1, w2⟩ | ⟨w1, w2⟩
      · rw [if_neg (by omega), w2, ← Int.natCast_mul, zw_of (by rw [w2] at h60; omega) (by rw [w2] at h60; omega)]
      · rw [if_pos (by omega), w2, Int.one_mul, Nat.one_mul, zw_of (by omega) (by omega)]
    rw [ew]
    have a0 : 0 ≤ zalp (fun p g => zcha (zMd (μ 1322) (μ 1322 0) m 0 1) law (-1) p g 0 0) x G m := by
      have := t3.bd
      have sb := zsty_bd (zcn_bd (who := x) cb) m G
      have key := two.2
      refine Decidable.byContradiction fun q => ?_
      have pz : (0 : Int) < 100 ^ ((m - hh) * G) := Int.pow_pos (by decide)
      have lt := Int.mul_lt_mul_of_pos_right (show (100 : Int) ^ (hh * G) < 100 ^ (hh * G) - zalp (fun p g => zcha (zMd (μ 1322) (μ 1322 0) m 0 1) law (-1) p g 0 0) x G m by omega) pz
      rw [← key, ← Int.pow_add, ← Nat.add_mul] at lt
      have e : hh + (m - hh) = m := by
        rcases hw with ⟨_, e⟩ | ⟨_, e⟩ <;> omega
      rw [e] at lt
      omega
    refine k_M_millionths (by omega) (by omega) (by decide) h60 t3 (by rw [← zhun]; omega) (fun ν5 s1 => ?_)
    have ev := hv G hh hG hw p4
    unfold zmil at ev
    rw [← ev]
    exact hQ _ _ (inv ν5 (fun b b0 b1 => by rw [s1 b (by omega), t1 b b0 (by omega)]) (fun j j0 j1 j2 j3 => by rw [s1 1320 (by decide), t2 j j0 j1 j2 j3]))
  refine c_S_alone (a0 := 0) (d1 := 5) (by omega) (k_S_canReckon (by omega) h (fun x0 x1 y0 y1 => ⟨fun _ => ?_, fun c => absurd c (by decide)⟩) (fun c => ⟨fun q => absurd rfl q, fun _ => ref _ _ (zCm.refl h) (fun G hh a b e => absurd ⟨⟨by omega, by omega⟩, by omega, e⟩ c) (fun _ => rfl)⟩))
  · rw [hm] at x1
    obtain ⟨G, hG⟩ : ∃ G : Nat, y = G := ⟨y.toNat, by omega⟩
    subst hG
    refine k_lookAround (by omega) h (fun ν n1 n2 n3 n4 => ?_)
    rw [hm] at n2
    simp only [Int.reduceAdd]
    refine k_reckonAlone (law := law) (m := m) (by omega) n2 (zMd_db h.rb u1 u2 (by omega) (by omega)) (hl.1 ν (fun b b0 b1 => n1 b (by omega)) n3) rfl (by omega) ⟨hB.1.2.1.2.1.keep (n1 _ (by decide)) (n1 _ (by decide)), hB.1.2.1.2.2.1.keep (n1 _ (by decide)) (n1 _ (by decide)), hB.1.2.1.2.2.2.1.keep (n1 _ (by decide)) (n1 _ (by decide))⟩ (fun ν7 t1 t2 t3 t4 t5 t6 t7 => ?_)
    rw [n4] at t6 t7
    have cb : ∀ p g : Int, 0 ≤ zcha (zalt (zalt (zMd (μ 1322) (μ 1322 0) m 0 0) 8) 10) law (-1) p g 0 0 ∧ zcha (zalt (zalt (zMd (μ 1322) (μ 1322 0) m 0 0) 8) 10) law (-1) p g 0 0 ≤ 100 := fun p g => zcha_bd
    have sb := zsty_bd (zcn_bd (who := x) cb) m G
    have B7 : zBigs ν7 := (hB.keep2 (fun b b0 b1 => n1 b (by omega))).any (fun b hb => t1 b (by omega) (by omega) (by omega)) t5 t6 t7
    refine k_R_millionths (by omega) t4 (by omega) t3 (by omega) t7 (by omega) ?_
    have e7 : ∀ b : Int, b ≠ 105 → ¬ (106 ≤ b ∧ b ≤ 131) → ν7 b = μ b := fun b b0 b1 => by rw [t1 b b0 (by omega) (by omega), n1 b (by omega)]
    refine ref _ _ ⟨fun b b0 b1 => e7 b (by omega) (by omega), e7 _ (by decide) (by decide), fun b b0 b1 => e7 b (by omega) (by omega), fun b b0 b1 => e7 b (by omega) (by omega), e7 _ (by decide) (by decide), by rw [e7 1320 (by decide) (by decide)]; exact ⟨rfl, rfl, rfl, rfl⟩, B7⟩ (fun G' hh hG' hw _ => ?_) (fun c => absurd ⟨⟨x0, x1⟩, y0, y1⟩ c)
    obtain rfl : G = G' := by omega
    have two := zal_two (c := fun p g => zcha (zalt (zalt (zMd (μ 1322) (μ 1322 0) m 0 0) 8) 10) law (-1) p g 0 0) (G := G) cb hw
    have ec : (fun p g => zcha (zMd (μ 1322) (μ 1322 0) m 0 1) law (-1) p g 0 0) = (fun p g => zcha (zalt (zalt (zMd (μ 1322) (μ 1322 0) m 0 0) 8) 10) law (-1) p g 0 0) := by
      funext p g
      exact zal_cha
    rw [ec, two.2, show m * G = hh * G + (m - hh) * G by
      rw [← Nat.add_mul]; congr 1
      rcases hw with ⟨_, e⟩ | ⟨_, e⟩ <;> omega, zmil_more]
end

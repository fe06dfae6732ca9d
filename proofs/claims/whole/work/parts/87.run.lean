/-! run, worlds -/
theorem zall_bd {m : Nat} {w : Int → Int} (hm : m ≤ 5) : 0 ≤ zall m w ∧ zall m w < 32 := (zmsk_b m hm).1
theorem zInv.ran {LR : zM → Int → (Int → Int) → Prop} {μ ν : zM} (hL : zLRok LR) (h : zInv LR μ) (h0 : ∀ j : Int, j ≠ 10 → ν 0 j = μ 0 j) (h1 : ∀ b : Int, 1 ≤ b → b < 99 → ν b = μ b) (h2 : ν 103 = μ 103) (h3 : ∀ b : Int, 1148 ≤ b → b < 1320 → ν b = μ b) (h4 : ∀ b : Int, 1321 ≤ b → b ≤ 1325 → ν b = μ b) (h5 : ν 1320 7 = μ 1320 7 ∧ ν 1320 12 = μ 1320 12) (h6 : ν 0 10 = ν 1320 1) (h7 : zBigs ν) (h8 : ∀ p : Int, 0 ≤ p → p < 5 → ν 100 p = if ν 1320 45 = -1 then -1 else ν 1342 p) : zInv LR ν := by
  obtain ⟨a1, a2, a3, a4, a5, a6, a7, a8, a9⟩ := h
  refine ⟨by rw [h0 4 (by decide), h5.1]; exact a1, by rw [h1 89 (by decide) (by decide), h4 1325 (by decide) (by decide)]; exact a2, by rw [h0 6 (by decide), h5.2]; exact a3, h6, by rw [h2, h4 1321 (by decide) (by decide)]; exact a5, ?_, fun k hk => ?_, h8, h7⟩
  · rw [h4 1322 (by decide) (by decide)]
    exact a6.keep hL (fun b b0 b1 => h1 b (by omega) (by omega))
  · rw [h1 88 (by decide) (by decide), h4 1324 (by decide) (by decide), h4 1323 (by decide) (by decide)]
    obtain ⟨q1, q2, q3⟩ := a7 k hk
    exact ⟨q1, q2, fun q => (q3 q).keep hL (fun b p1 p2 => h3 b (by omega) (by omega))⟩
section
variable {X : zX} {l : Launch} {d : Nat} {μ : zM} {Q : Int → Int → zM → Prop}
theorem p_run {x : Int} (h : zInv zLR μ) (hd : 6 ≤ d) (hQ : ∀ v ρ, zInv zLR ρ → Q v v ρ) : zCi X true l d 0 0 y_S_run [(12, 0, 0), (0, 0, x)] μ (fun v ν => zCi X true l d 0 0 y_M_run [(13, 0, 1320), (0, 0, x)] ν (fun w ρ => Q v w ρ)) := by
  obtain ⟨u0, u1, u2⟩ := h.use
  obtain ⟨m0, m1, m2⟩ := h.many u1 u2
  obtain ⟨g0, g1, g2⟩ := h.long
  obtain ⟨f0, f1, f2, f3⟩ := h.force
  obtain ⟨law, hl⟩ := h.law (x := μ 1322 1) (by omega)
  have hl : zLk μ (μ 1322 1) law := hl
  have hB := h.2.2.2.2.2.2.2.2
  obtain ⟨m, hm⟩ : ∃ m : Nat, μ 1322 (10 + μ 1322 0) = m := ⟨(μ 1322 (10 + μ 1322 0)).toNat, by omega⟩
  obtain ⟨G, hG⟩ : ∃ G : Nat, μ 1322 2 = G := ⟨(μ 1322 2).toNat, by omega⟩
  refine c_S_run (a0 := 0) (d1 := 5) (by omega) (k_S_within (fun x0 x1 => ⟨fun _ => ?_, fun c => absurd c (by decide)⟩) (fun c0 => ⟨fun c => absurd rfl c, fun _ => k_S_refuse1 ?_⟩))
  · refine k_lookAround (by omega) h (fun ν n1 n2 n3 n4 => ?_)
    simp only [Int.reduceAdd]
    rw [hm] at n2
    have z : ∀ b : Int, b ≠ 99 → zup ν 99 0 x b = ν b := fun b hb => zup_ne hb
    have e4 : zup ν 99 0 x 1 4 = G := by rw [z 1 (by decide), n1 1 (by decide), g0]; exact hG
    rw [e4]
    have e106 : zup ν 99 0 x 106 = ν 106 := z 106 (by decide)
    refine k_play (a := 99) (law := law) (m := m) (by omega) (Or.inl rfl) (n2.keep (fun b b0 b1 => z b (by omega))) (zMd_db h.rb u1 u2 (by omega) (by omega)) ?_ rfl (by omega) (by rw [zup_hit]; omega) (by rw [zup_hit]; omega) (fun ν7 t1 t2 t3 => ?_)
    · have := hl.1 ν (fun b b0 b1 => n1 b (by omega)) n3
      cases law with
      | none => unfold zCL at this ⊢; rw [e106]; exact this
      | some w =>
        obtain ⟨h1, h2, h3, h4, h5⟩ := this
        unfold zCL
        rw [e106]
        exact ⟨h1, h2, by rw [z _ (by omega)]; exact h3, h4.keep (fun b b0 b1 => z b (by omega)), h5⟩
    · rw [zup_hit, e106, n4] at t2 t3
      rw [zup_hit, e106, n4]
      refine k_S_allow ?_
      have ab := zall_bd (w := (zwd (zMd (μ 1322) (μ 1322 0) m 0 0) law (-1) m G (x, fun _ => -1)).2) (m := m) (by omega)
      -- the class's part of the state
      have e7 : ∀ b : Int, b ≠ 99 → b ≠ 100 → ¬ (106 ≤ b ∧ b ≤ 120) → ν7 b = μ b := fun b b0 b1 b2 => by rw [t1 b b0 (by omega) (by omega) (by omega), z b b0, n1 b (by omega)]
      have e8 : ∀ b : Int, b ≠ 0 → b ≠ 99 → b ≠ 100 → ¬ (106 ≤ b ∧ b ≤ 120) → sok ν7 b = μ b := fun b b0 b1 b2 b3 => by unfold sok; rw [zup_ne b0]; exact e7 b b1 b2 b3
      have e9 : ∀ b : Int, b ≠ 1320 → zup (zup (sok ν7) 1320 0 0) 1320 44 x b = sok ν7 b := fun b hb => by rw [zup_ne hb, zup_ne hb]
      have er : zup (zup (sok ν7) 1320 0 0) 1320 44 x 1322 = μ 1322 := by rw [e9 _ (by decide), e8 _ (by decide) (by decide) (by decide) (by decide)]
      refine c_M_run (a0 := 1320) (d1 := 5) (by omega) (k_M_in (fun _ _ => ⟨fun _ => ?_, fun c => absurd c (by decide)⟩) (fun c => absurd ⟨x0, x1⟩ c))
      refine k_drawn (law := law) (m := m) (G := G) (by omega) (by rw [er]; exact h.rb) (by rw [er]; exact hm) (by rw [er]; exact hG) (fun ν' a b => hl.2 ν' (by rw [a, er]) (by rw [b, er])) (by rw [zup_hit]; omega) (by rw [zup_hit]; omega) (fun ν5 s1 s2 s3 s4 s5 => ?_)
      rw [zup_hit, er] at s4 s5
      rw [zup_hit, er, s3]
      have loop : ∀ k p : Nat, p + k = 5 → ∀ ν6 : zM, (∀ b : Int, b ≠ 1342 → ν6 b = zup ν5 1320 45 m b) → (∀ q : Int, 0 ≤ q → q < p → ν6 1342 q = (zwd (zMd (μ 1322) (μ 1322 0) m 0 0) law (-1) m G (x, fun _ => -1)).2 q) → zE X true l d 0 0 y_M_run 44 [some (13, 0, 1320), none, some (0, 0, zall m (zwd (zMd (μ 1322) (μ 1322 0) m 0 0) law (-1) m G (x, fun _ => -1)).2), some (0, 0, (p : Int))] [] ν6 (zri (fun w ρ => Q (zall m (zwd (zMd (μ 1322) (μ 1322 0) m 0 0) law (-1) m G (x, fun _ => -1)).2) w ρ)) := by
        intro k
        induction k with
        | zero =>
          intro p hp ν6 a e
          obtain rfl : p = 5 := by omega
          refine s_M_run_44 (a0 := 1320) (d1 := 5) (by omega) ⟨fun _ => k_M_tellp ab.1 (hQ _ _ ?_), fun c => absurd (by decide) c⟩
          have w0 : ∀ b : Int, b ≠ 1320 → b ≠ 1342 → mok ν6 b = ν5 b := fun b b0 b1 => by unfold mok; rw [zup_ne b0, a b b1, zup_ne b0]
          have w1 : ∀ b : Int, b ≠ 0 → b ≠ 99 → b ≠ 100 → ¬ (106 ≤ b ∧ b ≤ 120) → b ≠ 1320 → b ≠ 1331 → b ≠ 1332 → b ≠ 1342 → b ≠ 1343 → mok ν6 b = μ b := fun b b0 b1 b2 b3 b4 b5 b6 b7 b8 => by rw [w0 b b4 b7, s1 b b4 b5 b6 b8, e9 b b4, e8 b b0 b1 b2 b3]
          have wj : ∀ j : Int, j ≠ 0 → j ≠ 1 → j ≠ 24 → j ≠ 27 → j ≠ 28 → j ≠ 29 → j ≠ 30 → j ≠ 31 → j ≠ 32 → j ≠ 33 → j ≠ 34 → j ≠ 44 → j ≠ 45 → mok ν6 1320 j = μ 1320 j := fun j j0 j1 j2 j3 j4 j5 j6 j7 j8 j9 j10 j11 j12 => by
            unfold mok
            rw [zup_miss (by omega), a 1320 (by decide), zup_miss (by omega), s2 j j2 j3 j4 j5 j6 j7 j8 j9 j10 j11, zup_miss (by omega), zup_miss (by omega)]
            unfold sok
            rw [zup_ne (by decide), e7 _ (by decide) (by decide) (by decide)]
          refine h.ran zLR_ok (fun j hj => ?_) (fun b b0 b1 => w1 b (by omega) (by omega) (by omega) (by omega) (by omega) (by omega) (by omega) (by omega) (by omega)) (w1 _ (by decide) (by decide) (by decide) (by decide) (by decide) (by decide) (by decide) (by decide) (by decide)) (fun b b0 b1 => w1 b (by omega) (by omega) (by omega) (by omega) (by omega) (by omega) (by omega) (by omega) (by omega)) (fun b b0 b1 => w1 b (by omega) (by omega) (by omega) (by omega) (by omega) (by omega) (by omega) (by omega) (by omega)) ⟨wj 7 (by decide) (by decide) (by decide) (by decide) (by decide) (by decide) (by decide) (by decide) (by decide) (by decide) (by decide) (by decide) (by decide), wj 12 (by decide) (by decide) (by decide) (by decide) (by decide) (by decide) (by decide) (by decide) (by decide) (by decide) (by decide) (by decide) (by decide)⟩ ?_ (hB.keep2 (fun b b0 b1 => w1 b (by omega) (by omega) (by omega) (by omega) (by omega) (by omega) (by omega) (by omega) (by omega))) (fun p p0 p1 => ?_)
          · rw [w0 0 (by decide) (by decide), s1 0 (by decide) (by decide) (by decide) (by decide), e9 0 (by decide)]
            unfold sok
            rw [zup_miss (by omega), e7 0 (by decide) (by decide) (by decide)]
          · have r1 : mok ν6 1320 1 = 0 := by unfold mok; rw [zup_hit]
            rw [r1, w0 0 (by decide) (by decide), s1 0 (by decide) (by decide) (by decide) (by decide), e9 0 (by decide)]
            unfold sok
            rw [zup_hit]
          · have r1 : mok ν6 1320 45 = m := by unfold mok; rw [zup_miss (by decide), a 1320 (by decide), zup_hit]
            have r2 : mok ν6 1342 = ν6 1342 := by unfold mok; rw [zup_ne (by decide)]
            have r3 : mok ν6 100 = ν7 100 := by
              rw [w0 100 (by decide) (by decide), s1 100 (by decide) (by decide) (by decide) (by decide), e9 100 (by decide)]
              unfold sok
              rw [zup_ne (by decide)]
            rw [r1, if_neg (by omega), r2, r3, e p p0 (by omega)]
            exact t3 p p0 p1
        | succ k ih =>
          intro p hp ν6 a e
          refine s_M_run_44 (a0 := 1320) (d1 := 5) (by omega) ⟨fun c => absurd c (by omega), fun _ => ⟨by omega, by omega, ?_⟩⟩
          simp only [Int.reduceAdd]
          rw [zw_of (by omega) (by omega)]
          refine ih (p + 1) (by omega) _ (fun b hb => (zup_ne hb).trans (a b hb)) (fun q q0 q1 => ?_)
          rw [zup_val, a 1343 (by decide), zup_ne (by decide)]
          split
          · rename_i e2; rw [e2]; exact s5 p (by omega) (by omega)
          · exact e q q0 (by omega)
      exact loop 5 0 rfl _ (fun _ _ => rfl) (fun q q0 q1 => by omega)
  · exact c_M_run (a0 := 1320) (d1 := 5) (by omega) (k_M_in (fun p q => absurd ⟨p, q⟩ c0) (fun _ => ⟨fun c => absurd rfl c, fun _ => k_M_telln (by decide) (hQ _ _ (h.ref zLR_ok (by decide)))⟩))
/-- seed and count after k worlds -/
def zwn (δ : Nat → Int → Int) (law : Option zLaw) (m G : Nat) (x : Int) : Nat → Int × Int
  | 0 => (x, 0)
  | k + 1 => ((zwd δ law (-1) m G ((zwn δ law m G x k).1, fun _ => -1)).1, (zwn δ law m G x k).2 + (if zall m (zwd δ law (-1) m G ((zwn δ law m G x k).1, fun _ => -1)).2 = 0 then 0 else 1))
theorem zwn_bd {δ : Nat → Int → Int} {law : Option zLaw} {m G : Nat} {x : Int} (x0 : 0 ≤ x) (x1 : x ≤ 1000002) : ∀ k : Nat, (0 ≤ (zwn δ law m G x k).1 ∧ (zwn δ law m G x k).1 ≤ 1000002) ∧ 0 ≤ (zwn δ law m G x k).2 ∧ (zwn δ law m G x k).2 ≤ k
  | 0 => by unfold zwn; exact ⟨⟨x0, x1⟩, Int.le_refl 0, Int.le_refl 0⟩
  | k + 1 => by
    obtain ⟨⟨a1, a2⟩, a3, a4⟩ := zwn_bd (δ := δ) (law := law) (m := m) (G := G) x0 x1 k
    have b := (zwd_ok (δ := δ) (law := law) (wo := -1) (m := m) G ((zwn δ law m G x k).1, fun _ => -1) a1 a2 (fun _ => rfl)).1
    unfold zwn
    refine ⟨b, ?_⟩
    dsimp only
    split <;> omega
theorem p_worlds {x y : Int} (h : zInv zLR μ) (hd : 6 ≤ d) (hQ : ∀ v ρ, zInv zLR ρ → Q v v ρ) : zCi X true l d 0 0 y_S_worlds [(12, 0, 0), (0, 0, x), (0, 0, y)] μ (fun v ν => zCi X true l d 0 0 y_M_worlds [(13, 0, 1320), (0, 0, x), (0, 0, y)] ν (fun w ρ => Q v w ρ)) := by
  obtain ⟨u0, u1, u2⟩ := h.use
  obtain ⟨m0, m1, m2⟩ := h.many u1 u2
  obtain ⟨g0, g1, g2⟩ := h.long
  obtain ⟨f0, f1, f2, f3⟩ := h.force
  obtain ⟨law, hl⟩ := h.law (x := μ 1322 1) (by omega)
  have hl : zLk μ (μ 1322 1) law := hl
  have hB := h.2.2.2.2.2.2.2.2
  have ht := h.thrown zLR_ok
  obtain ⟨m, hm⟩ : ∃ m : Nat, μ 1322 (10 + μ 1322 0) = m := ⟨(μ 1322 (10 + μ 1322 0)).toNat, by omega⟩
  obtain ⟨G, hG⟩ : ∃ G : Nat, μ 1322 2 = G := ⟨(μ 1322 2).toNat, by omega⟩
  refine c_S_worlds (a0 := 0) (d1 := 5) (by omega) (k_S_within (fun x0 x1 => ⟨fun c => absurd c (by decide), fun _ => k_S_within (fun y0 y1 => ⟨fun _ => ?_, fun c => absurd c (by decide)⟩) (fun c => ⟨fun q => absurd rfl q, fun _ => ?_⟩)⟩) (fun c => ⟨fun _ => ?_, fun q => absurd rfl q⟩))
  · obtain ⟨N, rfl⟩ : ∃ N : Nat, x = N := ⟨x.toNat, by omega⟩
    have bd := zwn_bd (δ := zMd (μ 1322) (μ 1322 0) m 0 0) (law := law) (m := m) (G := G) (x := y) y0 (by omega)
    have ref : ∀ ν : zM, zCm μ ν → zCi X true l d 0 0 y_M_worlds [(13, 0, 1320), (0, 0, (N : Int)), (0, 0, y)] ν (fun w ρ => Q (zwn (zMd (μ 1322) (μ 1322 0) m 0 0) law m G y N).2 w ρ) := by
      intro ν cν
      have c2 := cν.trans (zCm.thrown (h.cm cν))
      have loop : ∀ k i : Nat, i + k = N → ∀ ν' : zM, zCm μ ν' → ν' 1320 44 = (zwn (zMd (μ 1322) (μ 1322 0) m 0 0) law m G y i).1 → zE X true l d 0 0 y_M_worlds 42 [some (13, 0, 1320), some (0, 0, (N : Int)), none, some (0, 0, (zwn (zMd (μ 1322) (μ 1322 0) m 0 0) law m G y i).2), some (0, 0, (i : Int))] [] ν' (zri (fun w ρ => Q (zwn (zMd (μ 1322) (μ 1322 0) m 0 0) law m G y N).2 w ρ)) := by
        intro k
        induction k with
        | zero =>
          intro i hi ν' c' e
          obtain rfl : i = N := by omega
          exact s_M_worlds_42 (a0 := 1320) (d1 := 5) (by omega) ⟨fun _ => hQ _ _ (h.cm c'), fun c => absurd (by omega) c⟩
        | succ k ih =>
          intro i hi ν' c' e
          have er := c'.row
          have b := bd i
          refine s_M_worlds_42 (a0 := 1320) (d1 := 5) (by omega) ⟨fun c => absurd c (by omega), fun _ => k_drawn (law := law) (m := m) (G := G) (by omega) (by rw [er]; exact h.rb) (by rw [er]; exact hm) (by rw [er]; exact hG) (fun ν' a b => hl.2 ν' (by rw [a, er]) (by rw [b, er])) (by rw [e]; exact b.1.1) (by rw [e]; exact b.1.2) (fun ν5 s1 s2 s3 s4 s5 => ?_)⟩
          rw [er, e] at s4
          rw [er, e, zw_of (x := (i : Int) + 1) (by omega) (by omega), zw_of (by split <;> omega) (by split <;> omega)]
          refine ih (i + 1) (by omega) ν5 (c'.trans ⟨fun b b0 b1 => s1 b (by omega) (by omega) (by omega) (by omega), s1 _ (by decide) (by decide) (by decide) (by decide), fun b b0 b1 => s1 b (by omega) (by omega) (by omega) (by omega), fun b b0 b1 => s1 b (by omega) (by omega) (by omega) (by omega), s1 _ (by decide) (by decide) (by decide) (by decide), ⟨s2 1 (by decide) (by decide) (by decide) (by decide) (by decide) (by decide) (by decide) (by decide) (by decide) (by decide), s2 7 (by decide) (by decide) (by decide) (by decide) (by decide) (by decide) (by decide) (by decide) (by decide) (by decide), s2 12 (by decide) (by decide) (by decide) (by decide) (by decide) (by decide) (by decide) (by decide) (by decide) (by decide), s2 45 (by decide) (by decide) (by decide) (by decide) (by decide) (by decide) (by decide) (by decide) (by decide) (by decide)⟩, c'.2.2.2.2.2.2.keep2 (fun b b0 b1 => s1 b (by omega) (by omega) (by omega) (by omega))⟩) s4
      refine c_M_worlds (a0 := 1320) (d1 := 5) (by omega) (k_M_in (fun _ _ => ⟨fun c => absurd c (by decide), fun _ => k_M_in (fun _ _ => ⟨fun _ => ?_, fun c => absurd c (by decide)⟩) (fun c => absurd ⟨y0, y1⟩ c)⟩) (fun c => absurd ⟨x0, x1⟩ c))
      refine loop N 0 (by omega) _ (c2.trans ⟨fun b b0 b1 => zup_ne (by omega), zup_ne (by decide), fun b b0 b1 => zup_ne (by omega), fun b b0 b1 => zup_ne (by omega), zup_ne (by decide), ⟨zup_miss (by decide), zup_miss (by decide), zup_miss (by decide), zup_miss (by decide)⟩, c2.2.2.2.2.2.2.keep2 (fun b b0 b1 => zup_ne (by omega))⟩) (by rw [zup_hit]; rfl)
    refine k_lookAround (by omega) h (fun ν n1 n2 n3 n4 => ?_)
    rw [hm] at n2
    have loop : ∀ k i : Nat, i + k = N → ∀ ν' : zM, (∀ b : Int, b ≠ 101 → b ≠ 102 → b ≠ 119 → b ≠ 120 → ν' b = ν b) → ν' 101 0 = (zwn (zMd (μ 1322) (μ 1322 0) m 0 0) law m G y i).1 → zE X true l d 0 0 y_S_worlds 40 [some (12, 0, 0), some (0, 0, (N : Int)), none, some (0, 0, (zwn (zMd (μ 1322) (μ 1322 0) m 0 0) law m G y i).2), some (0, 0, (i : Int))] [] ν' (zri (fun v ν => zCi X true l d 0 0 y_M_worlds [(13, 0, 1320), (0, 0, (N : Int)), (0, 0, y)] ν (fun w ρ => Q v w ρ))) := by
      intro k
      induction k with
      | zero =>
        intro i hi ν' a e
        obtain rfl : i = N := by omega
        have e1 : ∀ b : Int, b ≠ 101 → b ≠ 102 → ¬ (106 ≤ b ∧ b ≤ 120) → ν' b = μ b := fun b b0 b1 b2 => by rw [a b b0 b1 (by omega) (by omega), n1 b (by omega)]
        exact s_S_worlds_40 (a0 := 0) (d1 := 5) (by omega) ⟨fun _ => ref ν' ⟨fun b b0 b1 => e1 b (by omega) (by omega) (by omega), e1 _ (by decide) (by decide) (by decide), fun b b0 b1 => e1 b (by omega) (by omega) (by omega), fun b b0 b1 => e1 b (by omega) (by omega) (by omega), e1 _ (by decide) (by decide) (by decide), by rw [e1 1320 (by decide) (by decide) (by decide)]; exact ⟨rfl, rfl, rfl, rfl⟩, hB.keep2 (fun b b0 b1 => e1 b (by omega) (by omega) (by omega))⟩, fun c => absurd (by omega) c⟩
      | succ k ih =>
        intro i hi ν' a e
        have b := bd i
        have e4 : ν' 1 4 = G := by rw [a 1 (by decide) (by decide) (by decide) (by decide), n1 1 (by decide), g0]; exact hG
        have e106 : ν' 106 = ν 106 := a 106 (by decide) (by decide) (by decide) (by decide)
        refine s_S_worlds_40 (a0 := 0) (d1 := 5) (by omega) ⟨fun c => absurd c (by omega), fun _ => ?_⟩
        simp only [Int.reduceAdd]
        rw [e4]
        refine k_play (a := 101) (law := law) (m := m) (by omega) (Or.inr rfl) (n2.keep (fun b b0 b1 => a b (by omega) (by omega) (by omega) (by omega))) (zMd_db h.rb u1 u2 (by omega) (by omega)) (hl.1 ν' (fun b b0 b1 => by rw [a b (by omega) (by omega) (by omega) (by omega)]; exact n1 b (by omega)) (by rw [e106]; exact n3)) rfl (by omega) (by rw [e]; exact b.1.1) (by rw [e]; exact b.1.2) (fun ν7 t1 t2 t3 => ?_)
        rw [e, e106, n4] at t2
        rw [e, e106, n4, zw_of (x := (i : Int) + 1) (by omega) (by omega), zw_of (x := (zwn (zMd (μ 1322) (μ 1322 0) m 0 0) law m G y i).2 + 1) (by omega) (by omega)]
        have nx := ih (i + 1) (by omega) ν7 (fun b b0 b1 b2 b3 => by rw [t1 b b0 b1 b2 b3]; exact a b b0 b1 b2 b3) t2
        unfold zwn at nx
        refine ⟨fun z => ?_, fun z => ?_⟩
        · rw [if_pos z, Int.add_zero] at nx; exact nx
        · rw [if_neg z] at nx; exact nx
    exact loop N 0 (by omega) _ (fun b b0 b1 _ _ => zup_ne b0) (by show zup ν 101 0 y 101 0 = _; rw [zup_hit]; rfl)
  · exact c_M_worlds (a0 := 1320) (d1 := 5) (by omega) (k_M_in (fun _ _ => ⟨fun c => absurd c (by decide), fun _ => k_M_in (fun a b => absurd ⟨a, b⟩ c) (fun _ => ⟨fun q => absurd rfl q, fun _ => hQ _ _ ht⟩)⟩) (fun c2 => absurd ⟨by assumption, by assumption⟩ c2))
  · exact c_M_worlds (a0 := 1320) (d1 := 5) (by omega) (k_M_in (fun a b => absurd ⟨a, b⟩ c) (fun _ => ⟨fun _ => hQ _ _ ht, fun q => absurd rfl q⟩))
end

/-! drawn; run, worlds -/
section
variable {X : zX} {l : Launch} {d : Nat} {μ : zM}
theorem k_drawn {law : Option zLaw} {m G : Nat} {Q : Int → zM → Prop} (hd : 4 ≤ d) (hR : zRB (μ 1322)) (hm : μ 1322 (10 + μ 1322 0) = m) (hG : μ 1322 2 = G) (hl : ∀ ν : zM, ν 1322 = μ 1322 → ν 1320 32 = μ 1322 1 → zML ν law) (s0 : 0 ≤ μ 1320 44) (s1 : μ 1320 44 ≤ 1000002)
    (hQ : ∀ ν, (∀ b : Int, b ≠ 1320 → b ≠ 1331 → b ≠ 1332 → b ≠ 1343 → ν b = μ b) → (∀ j : Int, j ≠ 24 → j ≠ 27 → j ≠ 28 → j ≠ 29 → j ≠ 30 → j ≠ 31 → j ≠ 32 → j ≠ 33 → j ≠ 34 → j ≠ 44 → ν 1320 j = μ 1320 j) → ν 1320 31 = (m : Int) → ν 1320 44 = (zwd (zMd (μ 1322) (μ 1322 0) m 0 0) law (-1) m G (μ 1320 44, fun _ => -1)).1 → (∀ p : Int, 0 ≤ p → p < 5 → ν 1343 p = (zwd (zMd (μ 1322) (μ 1322 0) m 0 0) law (-1) m G (μ 1320 44, fun _ => -1)).2 p) → Q (zall m (zwd (zMd (μ 1322) (μ 1322 0) m 0 0) law (-1) m G (μ 1320 44, fun _ => -1)).2) ν) : zCi X true l d 0 0 y_M_drawn [(13, 0, 1320)] μ Q := by
  have u12 := hR.1
  have m12 := hR.2.2.2.2.2.2.2.1 (10 + μ 1322 0) (by omega) (by omega)
  have g12 := hR.2.2.1
  generalize hW : (fun g : Nat => zwd (zMd (μ 1322) (μ 1322 0) m 0 0) law (-1) m g (μ 1320 44, fun _ => -1)) = W
  have hW' : ∀ g : Nat, zwd (zMd (μ 1322) (μ 1322 0) m 0 0) law (-1) m g (μ 1320 44, fun _ => -1) = W g := fun g => by rw [← hW]
  have ok : ∀ g : Nat, (0 ≤ (W g).1 ∧ (W g).1 ≤ 1000002) ∧ ∀ q : Int, (W g).2 q = -1 ∨ (0 ≤ (W g).2 q ∧ (W g).2 q < g) := fun g => by rw [← hW' g]; exact zwd_ok g _ s0 s1 (fun _ => rfl)
  have hS : ∀ g : Nat, W (g + 1) = zdrw (fun p => zcha (zMd (μ 1322) (μ 1322 0) m 0 0) law (-1) p g (zSt m (W g).2 g) (zGn m (W g).2 g)) g m (W g) := fun g => by rw [← hW' g, ← hW' (g + 1)]; rfl
  rw [hW'] at hQ
  refine c_M_drawn (a0 := 1320) (d1 := 3) (by omega) (k_lookAtUse (by omega) u12 ?_)
  rw [hm]
  generalize hμ2 : zup (zup (zup (zup (zup μ 1320 30 (μ 1322 0)) 1320 31 (m : Int)) 1320 32 (μ 1322 1)) 1320 33 (-1)) 1320 34 0 = μ2
  have q30 : μ2 1320 30 = μ 1322 0 := by rw [← hμ2]; simp [zup]
  have q31 : μ2 1320 31 = m := by rw [← hμ2]; simp [zup]
  have q32 : μ2 1320 32 = μ 1322 1 := by rw [← hμ2]; simp [zup]
  have q33 : μ2 1320 33 = -1 := by rw [← hμ2]; simp [zup]
  have q34 : μ2 1320 34 = 0 := by rw [← hμ2]; simp [zup]
  have q0 : ∀ b : Int, b ≠ 1320 → μ2 b = μ b := fun b hb => by rw [← hμ2, zup_ne hb, zup_ne hb, zup_ne hb, zup_ne hb, zup_ne hb]
  have qj : ∀ j : Int, j ≠ 30 → j ≠ 31 → j ≠ 32 → j ≠ 33 → j ≠ 34 → μ2 1320 j = μ 1320 j := fun j j1 j2 j3 j4 j5 => by rw [← hμ2, zup_miss (by omega), zup_miss (by omega), zup_miss (by omega), zup_miss (by omega), zup_miss (by omega)]
  -- a state on the way
  have stt : ∀ ν : zM, (∀ b : Int, b ≠ 1320 → b ≠ 1331 → b ≠ 1332 → b ≠ 1343 → ν b = μ b) → (∀ j : Int, j ≠ 24 → j ≠ 27 → j ≠ 28 → j ≠ 29 → j ≠ 44 → ν 1320 j = μ2 1320 j) → ν 1322 = μ 1322 ∧ ν 1320 30 = μ 1322 0 ∧ ν 1320 31 = m ∧ ν 1320 33 = -1 ∧ ν 1320 34 = 0 ∧ zML ν law := fun ν a b => by
    have e22 := a 1322 (by decide) (by decide) (by decide) (by decide)
    exact ⟨e22, by rw [b 30 (by decide) (by decide) (by decide) (by decide) (by decide)]; exact q30, by rw [b 31 (by decide) (by decide) (by decide) (by decide) (by decide)]; exact q31, by rw [b 33 (by decide) (by decide) (by decide) (by decide) (by decide)]; exact q33, by rw [b 34 (by decide) (by decide) (by decide) (by decide) (by decide)]; exact q34, hl ν e22 (by rw [b 32 (by decide) (by decide) (by decide) (by decide) (by decide)]; exact q32)⟩
  have l194 : ∀ ν : zM, (∀ b : Int, b ≠ 1320 → b ≠ 1331 → b ≠ 1332 → b ≠ 1343 → ν b = μ b) → (∀ j : Int, j ≠ 24 → j ≠ 27 → j ≠ 28 → j ≠ 29 → j ≠ 44 → ν 1320 j = μ2 1320 j) → ν 1320 44 = (W G).1 → (∀ p : Int, 0 ≤ p → p < 5 → ν 1343 p = (W G).2 p) → ∀ k p : Nat, p + k = m → zE X true l d 0 0 y_M_drawn 194 [some (13, 0, 1320), some (0, 0, zmsk (fun q => decide ((W G).2 q ≠ -1)) p), some (0, 0, (p : Int)), none, none] [] ν (zri Q) := by
    intro ν a b c e k
    obtain ⟨z22, z30, z31, z33, z34, zL⟩ := stt ν a b
    induction k with
    | zero =>
      intro p hp
      obtain rfl : p = m := by omega
      refine s_M_drawn_194 ⟨fun _ => hQ ν a (fun j j0 j1 j2 j3 j4 j5 j6 j7 j8 j9 => ?_) z31 c e, fun c => absurd (by omega) c⟩
      rw [b j j0 j1 j2 j3 j9, qj j j4 j5 j6 j7 j8]
    | succ k ih =>
      intro p hp
      refine s_M_drawn_194 (a0 := 1320) ⟨fun c => absurd c (by omega), fun _ => ⟨by omega, ?_⟩⟩
      have ep := e p (by omega) (by omega)
      simp only [Int.reduceAdd, ep]
      rw [zw_of (by omega) (by omega)]
      have nx := ih (p + 1) (by omega)
      unfold zmsk at nx
      by_cases z : (W G).2 p = -1
      · rw [if_neg (by rw [decide_eq_true_eq]; exact fun q => q z)] at nx
        rw [if_pos z]
        exact nx
      · rw [if_pos (decide_eq_true z)] at nx
        rw [if_neg z]
        exact nx
  have l131 : ∀ g : Nat, g < G → (∀ ν : zM, (∀ b : Int, b ≠ 1320 → b ≠ 1331 → b ≠ 1332 → b ≠ 1343 → ν b = μ b) → (∀ j : Int, j ≠ 24 → j ≠ 27 → j ≠ 28 → j ≠ 29 → j ≠ 44 → ν 1320 j = μ2 1320 j) → ν 1320 44 = (W (g + 1)).1 → (∀ p : Int, 0 ≤ p → p < 5 → ν 1343 p = (W (g + 1)).2 p) → zE X true l d 0 0 y_M_drawn 26 [some (13, 0, 1320), some (0, 0, ((g + 1 : Nat) : Int)), none, none, none] [] ν (zri Q)) → ∀ k p : Nat, p + k = m → ∀ ν : zM, (∀ b : Int, b ≠ 1320 → b ≠ 1331 → b ≠ 1332 → b ≠ 1343 → ν b = μ b) → (∀ j : Int, j ≠ 24 → j ≠ 27 → j ≠ 28 → j ≠ 29 → j ≠ 44 → ν 1320 j = μ2 1320 j) → ν 1320 44 = (zdrw (fun p => zcha (zMd (μ 1322) (μ 1322 0) m 0 0) law (-1) p g (zSt m (W g).2 g) (zGn m (W g).2 g)) g p (W g)).1 → (∀ q : Int, 0 ≤ q → q < 5 → ν 1343 q = (zdrw (fun p => zcha (zMd (μ 1322) (μ 1322 0) m 0 0) law (-1) p g (zSt m (W g).2 g) (zGn m (W g).2 g)) g p (W g)).2 q) → zE X true l d 0 0 y_M_drawn 131 [some (13, 0, 1320), some (0, 0, (g : Int)), some (0, 0, zSt m (W g).2 g), some (0, 0, zGn m (W g).2 g), some (0, 0, (p : Int))] [] ν (zri Q) := by
    intro g hg kk k
    obtain ⟨⟨w1, w2⟩, w3⟩ := ok g
    induction k with
    | zero =>
      intro p hp ν a b c e
      obtain rfl : p = m := by omega
      obtain ⟨z22, z30, z31, z33, z34, zL⟩ := stt ν a b
      rw [← hS g] at c e
      refine s_M_drawn_131 (a0 := 1320) (d1 := 3) (by omega) ⟨fun _ => ?_, fun c => absurd (by omega) c⟩
      rw [zw_of (by omega) (by omega)]
      exact kk ν a b c e
    | succ k ih =>
      intro p hp ν a b c e
      obtain ⟨z22, z30, z31, z33, z34, zL⟩ := stt ν a b
      obtain ⟨v1, v2, v3, v4⟩ := zdrw_ok (ch := fun q => zcha (zMd (μ 1322) (μ 1322 0) m 0 0) law (-1) q g (zSt m (W g).2 g) (zGn m (W g).2 g)) (g := g) (by omega) p (W g) w1 w2 w3
      generalize hs : zdrw (fun q => zcha (zMd (μ 1322) (μ 1322 0) m 0 0) law (-1) q g (zSt m (W g).2 g) (zGn m (W g).2 g)) g p (W g) = s at *
      have nx : ∀ t, zdrw (fun q => zcha (zMd (μ 1322) (μ 1322 0) m 0 0) law (-1) q g (zSt m (W g).2 g) (zGn m (W g).2 g)) g (p + 1) (W g) = t → ∀ ν2 : zM, (∀ b : Int, b ≠ 1320 → b ≠ 1331 → b ≠ 1332 → b ≠ 1343 → ν2 b = μ b) → (∀ j : Int, j ≠ 24 → j ≠ 27 → j ≠ 28 → j ≠ 29 → j ≠ 44 → ν2 1320 j = μ2 1320 j) → ν2 1320 44 = t.1 → (∀ q : Int, 0 ≤ q → q < 5 → ν2 1343 q = t.2 q) → zE X true l d 0 0 y_M_drawn 131 [some (13, 0, 1320), some (0, 0, (g : Int)), some (0, 0, zSt m (W g).2 g), some (0, 0, zGn m (W g).2 g), some (0, 0, (p : Int) + 1)] [] ν2 (zri Q) := fun t ht ν2 r1 r2 r3 r4 => by
        subst ht
        exact ih (p + 1) (by omega) ν2 r1 r2 r3 r4
      unfold zdrw at nx
      rw [hs] at nx
      refine s_M_drawn_131 (a0 := 1320) (d1 := 3) (by omega) ⟨fun c => absurd c (by omega), fun _ => ⟨by omega, ?_⟩⟩
      simp only [Int.reduceAdd]
      rw [e p (by omega) (by omega), zw_of (x := (p : Int) + 1) (by omega) (by omega)]
      refine ⟨fun ne => ?_, fun ne => c_M_draw (a0 := 1320) ⟨by decide, ?_⟩⟩
      · rw [if_pos ne] at nx
        exact nx s rfl ν a b c e
      · rw [if_neg (fun q => q ne)] at nx
        have es : zreml (zwl (zwl (ν 1320 44 * 1103) + 12345)) 1000003 = (s.1 * 1103 + 12345) % 1000003 := by
          rw [c, zwl_id (x := s.1 * 1103) (by omega) (by omega), zwl_id (by omega) (by omega), zreml_of (by omega) (by omega) (by decide) (by decide)]
        rw [es, zup_hit, zreml_of (by omega) (by omega) (by decide) (by decide), zw_of (x := (s.1 * 1103 + 12345) % 1000003 % 100) (by omega) (by omega)]
        have a2 : ∀ b : Int, b ≠ 1320 → b ≠ 1331 → b ≠ 1332 → b ≠ 1343 → zup ν 1320 44 ((s.1 * 1103 + 12345) % 1000003) b = μ b := fun b b0 b1 b2 b3 => by rw [zup_ne b0]; exact a b b0 b1 b2 b3
        have b2 : ∀ j : Int, j ≠ 24 → j ≠ 27 → j ≠ 28 → j ≠ 29 → j ≠ 44 → zup ν 1320 44 ((s.1 * 1103 + 12345) % 1000003) 1320 j = μ2 1320 j := fun j j0 j1 j2 j3 j4 => by rw [zup_miss (by omega)]; exact b j j0 j1 j2 j3 j4
        obtain ⟨y22, y30, y31, y33, y34, yL⟩ := stt _ a2 b2
        refine k_M_chanceOf (law := law) (by omega) (by rw [y22]; exact hR) y30 u12.1 u12.2 y31 (by omega) (by omega) y34 yL (by omega) (by omega) (by omega) (by omega) (fun ν4 t1 t2 => ?_)
        rw [y22, y33]
        have f4 : ∀ b : Int, b ≠ 1320 → b ≠ 1331 → b ≠ 1332 → b ≠ 1343 → ν4 b = μ b := fun b b0 b1 b2 b3 => by rw [t1 b b0 b1 b2]; exact a2 b b0 b1 b2 b3
        have f5 : ∀ j : Int, j ≠ 24 → j ≠ 27 → j ≠ 28 → j ≠ 29 → j ≠ 44 → ν4 1320 j = μ2 1320 j := fun j j0 j1 j2 j3 j4 => by rw [t2 j j0 j1 j2 j3]; exact b2 j j0 j1 j2 j3 j4
        have f6 : ν4 1320 44 = (s.1 * 1103 + 12345) % 1000003 := by rw [t2 44 (by decide) (by decide) (by decide) (by decide), zup_hit]
        have f7 : ν4 1343 = ν 1343 := by rw [t1 1343 (by decide) (by decide) (by decide), zup_ne (by decide)]
        refine ⟨fun le => nx _ (if_pos le) ν4 f4 f5 f6 (fun q q0 q1 => by rw [f7]; exact e q q0 q1), fun gt => ⟨by omega, nx _ (if_neg gt) (zup ν4 1343 p g) (fun b b0 b1 b2 b3 => (zup_ne b3).trans (f4 b b0 b1 b2 b3)) (fun j j0 j1 j2 j3 j4 => by rw [zup_ne (by decide)]; exact f5 j j0 j1 j2 j3 j4) (by rw [zup_ne (by decide)]; exact f6) (fun q q0 q1 => ?_)⟩⟩
        rw [zup_val, f7, e q q0 q1]
        rfl
  have l43 : ∀ g : Nat, g < G → ∀ ν : zM, (∀ b : Int, b ≠ 1320 → b ≠ 1331 → b ≠ 1332 → b ≠ 1343 → ν b = μ b) → (∀ j : Int, j ≠ 24 → j ≠ 27 → j ≠ 28 → j ≠ 29 → j ≠ 44 → ν 1320 j = μ2 1320 j) → (∀ p : Int, 0 ≤ p → p < 5 → ν 1343 p = (W g).2 p) → zE X true l d 0 0 y_M_drawn 131 [some (13, 0, 1320), some (0, 0, (g : Int)), some (0, 0, zSt m (W g).2 g), some (0, 0, zGn m (W g).2 g), some (0, 0, 0)] [] ν (zri Q) → ∀ k p : Nat, p + k = m → zE X true l d 0 0 y_M_drawn 43 [some (13, 0, 1320), some (0, 0, (g : Int)), some (0, 0, zmsk (fun p => decide ((W g).2 p ≠ -1 ∧ (W g).2 p = (g : Int) - 1)) p), some (0, 0, zmsk (fun p => decide ((W g).2 p ≠ -1 ∧ (W g).2 p < (g : Int) - 1)) p), some (0, 0, (p : Int))] [] ν (zri Q) := by
    intro g hg ν a b e kk k
    obtain ⟨z22, z30, z31, z33, z34, zL⟩ := stt ν a b
    induction k with
    | zero =>
      intro p hp
      obtain rfl : p = m := by omega
      exact s_M_drawn_43 ⟨fun _ => kk, fun c => absurd (by omega) c⟩
    | succ k ih =>
      intro p hp
      have nx := ih (p + 1) (by omega)
      have wg : zw ((g : Int) - 1) = g - 1 := zw_of (by omega) (by omega)
      unfold zmsk at nx
      -- the second set
      have s85 : ∀ x : Int, x = (if decide ((W g).2 p ≠ -1 ∧ (W g).2 p = (g : Int) - 1) = true then zshl 1 p else 0) → zE X true l d 0 0 y_M_drawn 85 [some (13, 0, 1320), some (0, 0, (g : Int)), none, some (0, 0, zmsk (fun p => decide ((W g).2 p ≠ -1 ∧ (W g).2 p < (g : Int) - 1)) p), some (0, 0, (p : Int))] [(0, 0, x), (0, 0, zmsk (fun p => decide ((W g).2 p ≠ -1 ∧ (W g).2 p = (g : Int) - 1)) p)] ν (zri Q) := fun x hx => by
        refine s_M_drawn_85 (a0 := 1320) ⟨by omega, ?_⟩
        simp only [Int.reduceAdd]
        rw [e p (by omega) (by omega), wg, zw_of (x := (p : Int) + 1) (by omega) (by omega), hx]
        refine ⟨fun z => ?_, fun z => ⟨by omega, fun le => ?_, fun gt => ?_⟩⟩
        · rw [if_neg (c := decide ((W g).2 p ≠ -1 ∧ (W g).2 p < (g : Int) - 1) = true) (by rw [decide_eq_true_eq]; exact fun q => q.1 z)] at nx
          exact nx
        · rw [if_neg (c := decide ((W g).2 p ≠ -1 ∧ (W g).2 p < (g : Int) - 1) = true) (by rw [decide_eq_true_eq]; exact fun q => by omega)] at nx
          exact nx
        · rw [if_pos (c := decide ((W g).2 p ≠ -1 ∧ (W g).2 p < (g : Int) - 1) = true) (by rw [decide_eq_true_eq]; exact ⟨z, by omega⟩)] at nx
          exact nx
      refine s_M_drawn_43 (a0 := 1320) ⟨fun c => absurd c (by omega), fun _ => ⟨by omega, ?_⟩⟩
      simp only [Int.reduceAdd]
      rw [e p (by omega) (by omega), wg]
      refine ⟨fun z => s85 0 ?_, fun z => ⟨by omega, fun ne => s85 0 ?_, fun eq => s85 _ ?_⟩⟩
      · rw [if_neg (by rw [decide_eq_true_eq]; exact fun q => q.1 z)]
      · rw [if_neg (by rw [decide_eq_true_eq]; exact fun q => ne q.2)]
      · rw [if_pos (by rw [decide_eq_true_eq]; exact ⟨z, eq⟩)]
  have l26 : ∀ k g : Nat, g + k = G → ∀ ν : zM, (∀ b : Int, b ≠ 1320 → b ≠ 1331 → b ≠ 1332 → b ≠ 1343 → ν b = μ b) → (∀ j : Int, j ≠ 24 → j ≠ 27 → j ≠ 28 → j ≠ 29 → j ≠ 44 → ν 1320 j = μ2 1320 j) → ν 1320 44 = (W g).1 → (∀ p : Int, 0 ≤ p → p < 5 → ν 1343 p = (W g).2 p) → zE X true l d 0 0 y_M_drawn 26 [some (13, 0, 1320), some (0, 0, (g : Int)), none, none, none] [] ν (zri Q) := by
    intro k
    induction k with
    | zero =>
      intro g hg ν a b c e
      obtain rfl : g = G := by omega
      obtain ⟨z22, _⟩ := stt ν a b
      refine s_M_drawn_26 (a0 := 1320) ⟨fun _ => l194 ν a b c e m 0 (by omega), fun c => absurd ?_ c⟩
      simp only [Int.reduceAdd]
      rw [z22]; omega
    | succ k ih =>
      intro g hg ν a b c e
      obtain ⟨z22, _⟩ := stt ν a b
      refine s_M_drawn_26 (a0 := 1320) ⟨fun c => absurd c ?_, fun _ => l43 g (by omega) ν a b e (l131 g (by omega) (fun ν2 r1 r2 r3 r4 => ih (g + 1) (by omega) ν2 r1 r2 r3 r4) m 0 (by omega) ν a b c e) m 0 (by omega)⟩
      simp only [Int.reduceAdd]
      rw [z22]; omega
  have l6 : ∀ k p : Nat, p + k = 5 → ∀ ν : zM, (∀ b : Int, b ≠ 1343 → ν b = μ2 b) → (∀ q : Int, 0 ≤ q → q < p → ν 1343 q = -1) → zE X true l d 0 0 y_M_drawn 6 [some (13, 0, 1320), some (0, 0, (p : Int)), none, none, none] [] ν (zri Q) := by
    intro k
    induction k with
    | zero =>
      intro p hp ν a e
      obtain rfl : p = 5 := by omega
      refine s_M_drawn_6 ⟨fun _ => l26 G 0 (by omega) ν (fun b b0 _ _ b3 => by rw [a b b3, q0 b b0]) (fun j _ _ _ _ _ => by rw [a 1320 (by decide)]) ?_ (fun q q0 q1 => by rw [e q q0 (by omega), ← hW' 0]; rfl), fun c => absurd (by decide) c⟩
      rw [a 1320 (by decide), qj 44 (by decide) (by decide) (by decide) (by decide) (by decide), ← hW' 0]
      rfl
    | succ k ih =>
      intro p hp ν a e
      refine s_M_drawn_6 (a0 := 1320) ⟨fun c => absurd c (by omega), fun _ => ⟨by omega, ?_⟩⟩
      simp only [Int.reduceAdd]
      rw [zw_of (by omega) (by omega)]
      refine ih (p + 1) (by omega) _ (fun b hb => (zup_ne hb).trans (a b hb)) (fun q q0 q1 => ?_)
      rw [zup_val]
      split
      · rfl
      · exact e q q0 (by omega)
  exact l6 5 0 rfl μ2 (fun _ _ => rfl) (fun q q0 q1 => by omega)
end

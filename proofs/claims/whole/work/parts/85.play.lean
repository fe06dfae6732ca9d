/-! World.play and drawn -/
theorem zSt_z {m : Nat} {w : Int → Int} (hm : m ≤ 5) (h : ∀ q : Int, w q = -1) (g : Int) : zSt m w g = 0 ∧ zGn m w g = 0 := by
  have a := zmsk_b (f := fun p => decide (w p ≠ -1 ∧ w p = g - 1)) m hm
  have b := zmsk_b (f := fun p => decide (w p ≠ -1 ∧ w p < g - 1)) m hm
  refine ⟨zb_ext a.1 (by decide) (fun p hp => ?_), zb_ext b.1 (by decide) (fun p hp => ?_)⟩
  · rw [show zbt (zSt m w g) p ↔ _ from a.2 p hp]
    exact ⟨fun q => absurd (h p) (of_decide_eq_true q.2).1, fun q => absurd q (zb_z0 p hp)⟩
  · rw [show zbt (zGn m w g) p ↔ _ from b.2 p hp]
    exact ⟨fun q => absurd (h p) (of_decide_eq_true q.2).1, fun q => absurd q (zb_z0 p hp)⟩
theorem zSt_bd {m : Nat} {w : Int → Int} {g : Int} (hm : m ≤ 5) : (0 ≤ zSt m w g ∧ zSt m w g < 32) ∧ (0 ≤ zGn m w g ∧ zGn m w g < 32) := ⟨(zmsk_b m hm).1, (zmsk_b m hm).1⟩
section
variable {X : zX} {l : Launch} {d : Nat} {μ : zM} {δ : Nat → Int → Int} {law : Option zLaw}
theorem zremi_100 {x : Int} (h : 0 ≤ x) (h2 : x < 2147483648) : zremi x 100 = x % 100 := zremi_of h h2 (by decide) (by decide)
theorem k_play {a : Int} {m G : Nat} {Q : Int → zM → Prop} (hd : 3 ≤ d) (ha : a = 99 ∨ a = 101) (hC : zCd μ δ) (hD : zDb δ) (hL : zCL μ law) (hm : δ 10 0 = m) (g12 : G ≤ 12) (s0 : 0 ≤ μ a 0) (s1 : μ a 0 ≤ 1000002)
    (hQ : ∀ ν, (∀ b : Int, b ≠ a → b ≠ a + 1 → b ≠ 119 → b ≠ 120 → ν b = μ b) → ν a 0 = (zwd δ law (μ 106 5) m G (μ a 0, fun _ => -1)).1 → (∀ p : Int, 0 ≤ p → p < 5 → ν (a + 1) p = (zwd δ law (μ 106 5) m G (μ a 0, fun _ => -1)).2 p) → Q (zall m (zwd δ law (μ 106 5) m G (μ a 0, fun _ => -1)).2) ν) : zCi X true l d 0 0 y_World_play [(11, 0, a), (10, 0, 106), (0, 0, (G : Int))] μ Q := by
  have m5 : m ≤ 5 := by have := hD.2.2; omega
  generalize hW : (fun g : Nat => zwd δ law (μ 106 5) m g (μ a 0, fun _ => -1)) = W
  have hW' : ∀ g : Nat, zwd δ law (μ 106 5) m g (μ a 0, fun _ => -1) = W g := fun g => by rw [← hW]
  have ok : ∀ g : Nat, (0 ≤ (W g).1 ∧ (W g).1 ≤ 1000002) ∧ ∀ q : Int, (W g).2 q = -1 ∨ (0 ≤ (W g).2 q ∧ (W g).2 q < g) := fun g => by rw [← hW' g]; exact zwd_ok g _ s0 s1 (fun _ => rfl)
  have hS : ∀ g : Nat, W (g + 1) = zdrw (fun p => zcha δ law (μ 106 5) p g (zSt m (W g).2 g) (zGn m (W g).2 g)) g m (W g) := fun g => by rw [← hW' g, ← hW' (g + 1)]; rfl
  rw [hW'] at hQ
  have key : ∀ ν : zM, (∀ b : Int, b ≠ a → b ≠ a + 1 → b ≠ 119 → b ≠ 120 → ν b = μ b) → zCd ν δ ∧ zCL ν law ∧ ν 106 = μ 106 := fun ν n1 => ⟨hC.keep (fun b b0 b1 => n1 b (by omega) (by omega) (by omega) (by omega)), by
    cases law with
    | none => unfold zCL at hL ⊢; rw [n1 106 (by omega) (by omega) (by decide) (by decide)]; exact hL
    | some w =>
      obtain ⟨h1, h2, h3, h4, h5⟩ := hL
      unfold zCL
      rw [n1 106 (by omega) (by omega) (by decide) (by decide)]
      exact ⟨h1, h2, by rw [n1 _ (by omega) (by omega) (by omega) (by omega)]; exact h3, h4.keep (fun b b0 b1 => n1 b (by omega) (by omega) (by omega) (by omega)), h5⟩, n1 106 (by omega) (by omega) (by decide) (by decide)⟩
  -- the persons of one glance
  have l35 : ∀ g : Nat, g < G → (∀ ν : zM, (∀ b : Int, b ≠ a → b ≠ a + 1 → b ≠ 119 → b ≠ 120 → ν b = μ b) → ν a 0 = (W (g + 1)).1 → (∀ p : Int, 0 ≤ p → p < 5 → ν (a + 1) p = (W (g + 1)).2 p) → zE X true l d 0 0 y_World_play 16 [some (11, 0, a), some (10, 0, 106), some (0, 0, (G : Int)), some (0, 0, zSt m (W (g + 1)).2 ((g + 1 : Nat) : Int)), some (0, 0, zGn m (W (g + 1)).2 ((g + 1 : Nat) : Int)), some (0, 0, ((g + 1 : Nat) : Int)), none, none] [] ν (zri Q)) → ∀ k p : Nat, p + k = m → ∀ (ν : zM) (x6 : Int), (∀ b : Int, b ≠ a → b ≠ a + 1 → b ≠ 119 → b ≠ 120 → ν b = μ b) → ν a 0 = (zdrw (fun p => zcha δ law (μ 106 5) p g (zSt m (W g).2 g) (zGn m (W g).2 g)) g p (W g)).1 → (∀ q : Int, 0 ≤ q → q < 5 → ν (a + 1) q = (zdrw (fun p => zcha δ law (μ 106 5) p g (zSt m (W g).2 g) (zGn m (W g).2 g)) g p (W g)).2 q) → (0 ≤ x6 ∧ x6 < 32) → (∀ q : Nat, q < 5 → (zbt x6 q ↔ (q < p ∧ (zdrw (fun p => zcha δ law (μ 106 5) p g (zSt m (W g).2 g) (zGn m (W g).2 g)) g p (W g)).2 q = g))) → zE X true l d 0 0 y_World_play 35 [some (11, 0, a), some (10, 0, 106), some (0, 0, (G : Int)), some (0, 0, zSt m (W g).2 g), some (0, 0, zGn m (W g).2 g), some (0, 0, (g : Int)), some (0, 0, x6), some (0, 0, (p : Int))] [] ν (zri Q) := by
    intro g hg kk k
    obtain ⟨⟨w1, w2⟩, w3⟩ := ok g
    have bd := zSt_bd (m := m) (w := (W g).2) (g := g) m5
    have bS := zmsk_b (f := fun p => decide ((W g).2 p ≠ -1 ∧ (W g).2 p = (g : Int) - 1)) m m5
    have bG := zmsk_b (f := fun p => decide ((W g).2 p ≠ -1 ∧ (W g).2 p < (g : Int) - 1)) m m5
    have bO := zb_or bd.1 bd.2
    have bO' := zb_or bd.2 bd.1
    -- who is not to be asked
    have was : ∀ q : Nat, q < m → (zbt (zor (zSt m (W g).2 g) (zGn m (W g).2 g)) q ↔ (W g).2 q ≠ -1) := fun q hq => by
      rw [bO.2 q (by omega), show zbt (zSt m (W g).2 g) q ↔ _ from bS.2 q (by omega), show zbt (zGn m (W g).2 g) q ↔ _ from bG.2 q (by omega)]
      have := w3 q
      constructor
      · rintro (⟨_, r⟩ | ⟨_, r⟩)
        · exact (of_decide_eq_true r).1
        · exact (of_decide_eq_true r).1
      · intro r
        by_cases e : (W g).2 q = (g : Int) - 1
        · exact Or.inl ⟨hq, decide_eq_true ⟨r, e⟩⟩
        · exact Or.inr ⟨hq, decide_eq_true ⟨r, by omega⟩⟩
    induction k with
    | zero =>
      intro p hp ν x6 n1 n2 n3 x60 hx
      obtain rfl : p = m := by omega
      obtain ⟨c1, c2, c3⟩ := key ν n1
      have e107 : ν (106 + 1) 0 = p := by show ν 107 0 = _; rw [c1.2.2]; exact hm
      rw [← hS g] at n2 n3 hx
      obtain ⟨v1, v2, v3, v4⟩ := zdrw_ok (ch := fun q => zcha δ law (μ 106 5) q g (zSt p (W g).2 g) (zGn p (W g).2 g)) (g := g) (by omega) p (W g) w1 w2 w3
      rw [← hS g] at v2 v3 v4
      -- the sets of the next glance
      have e1 : x6 = zSt p (W (g + 1)).2 ((g + 1 : Nat) : Int) := by
        have b := zmsk_b (f := fun q => decide ((W (g + 1)).2 q ≠ -1 ∧ (W (g + 1)).2 q = ((g + 1 : Nat) : Int) - 1)) p m5
        refine zb_ext x60 b.1 (fun q hq => ?_)
        rw [hx q hq, show zbt (zSt p (W (g + 1)).2 ((g + 1 : Nat) : Int)) q ↔ _ from b.2 q hq]
        constructor
        · rintro ⟨r1, r2⟩; exact ⟨r1, decide_eq_true ⟨by omega, by omega⟩⟩
        · rintro ⟨r1, r2⟩; have := (of_decide_eq_true r2).2; exact ⟨r1, by omega⟩
      have e2 : zor (zGn p (W g).2 g) (zSt p (W g).2 g) = zGn p (W (g + 1)).2 ((g + 1 : Nat) : Int) := by
        have b := zmsk_b (f := fun q => decide ((W (g + 1)).2 q ≠ -1 ∧ (W (g + 1)).2 q < ((g + 1 : Nat) : Int) - 1)) p m5
        refine zb_ext bO'.1 b.1 (fun q hq => ?_)
        rw [bO'.2 q hq, show zbt (zSt p (W g).2 g) q ↔ _ from bS.2 q hq, show zbt (zGn p (W g).2 g) q ↔ _ from bG.2 q hq, show zbt (zGn p (W (g + 1)).2 ((g + 1 : Nat) : Int)) q ↔ _ from b.2 q hq]
        have a3 := w3 q
        constructor
        · rintro (⟨r1, r2⟩ | ⟨r1, r2⟩)
          · have := of_decide_eq_true r2
            have e := v4 q this.1
            exact ⟨r1, decide_eq_true (by rw [e]; exact ⟨this.1, by omega⟩)⟩
          · have := of_decide_eq_true r2
            have e := v4 q this.1
            exact ⟨r1, decide_eq_true (by rw [e]; exact ⟨this.1, by omega⟩)⟩
        · rintro ⟨r1, r2⟩
          have t := of_decide_eq_true r2
          have ne : (W g).2 q ≠ -1 := fun z => by
            rcases v2 q with u | u
            · exact t.1 u
            · -- newly gone would be at g
              have ch := hS g
              have : (W (g + 1)).2 q = -1 ∨ (W (g + 1)).2 q = g := by
                rw [ch]
                have st : ∀ n : Nat, (zdrw (fun q => zcha δ law (μ 106 5) q g (zSt p (W g).2 g) (zGn p (W g).2 g)) g n (W g)).2 q = -1 ∨ (zdrw (fun q => zcha δ law (μ 106 5) q g (zSt p (W g).2 g) (zGn p (W g).2 g)) g n (W g)).2 q = g := by
                  intro n
                  induction n with
                  | zero => exact Or.inl z
                  | succ n ihn =>
                    unfold zdrw
                    split
                    · exact ihn
                    · split
                      · exact ihn
                      · dsimp only [zsu]
                        split
                        · exact Or.inr rfl
                        · exact ihn
                exact st p
              omega
          have e := v4 q ne
          rw [e] at t
          by_cases z : (W g).2 q = (g : Int) - 1
          · exact Or.inr ⟨r1, decide_eq_true ⟨ne, z⟩⟩
          · exact Or.inl ⟨r1, decide_eq_true ⟨ne, by omega⟩⟩
      refine s_World_play_35 (a1 := 106) (d1 := 2) (by omega) ⟨fun _ => ?_, fun c => absurd (by omega) c⟩
      rw [e2, e1, zw_of (by omega) (by omega)]
      exact kk ν n1 n2 n3
    | succ k ih =>
      intro p hp ν x6 n1 n2 n3 x60 hx
      obtain ⟨c1, c2, c3⟩ := key ν n1
      have e107 : ν (106 + 1) 0 = m := by show ν 107 0 = _; rw [c1.2.2]; exact hm
      obtain ⟨v1, v2, v3, v4⟩ := zdrw_ok (ch := fun q => zcha δ law (μ 106 5) q g (zSt m (W g).2 g) (zGn m (W g).2 g)) (g := g) (by omega) p (W g) w1 w2 w3
      have ep : (zdrw (fun q => zcha δ law (μ 106 5) q g (zSt m (W g).2 g) (zGn m (W g).2 g)) g p (W g)).2 p = (W g).2 p := v3 p (by omega)
      have wp := was p (by omega)
      generalize hs : zdrw (fun q => zcha δ law (μ 106 5) q g (zSt m (W g).2 g) (zGn m (W g).2 g)) g p (W g) = s at *
      have nx : ∀ t, zdrw (fun q => zcha δ law (μ 106 5) q g (zSt m (W g).2 g) (zGn m (W g).2 g)) g (p + 1) (W g) = t → ∀ (ν2 : zM) (y6 : Int), (∀ b : Int, b ≠ a → b ≠ a + 1 → b ≠ 119 → b ≠ 120 → ν2 b = μ b) → ν2 a 0 = t.1 → (∀ q : Int, 0 ≤ q → q < 5 → ν2 (a + 1) q = t.2 q) → (0 ≤ y6 ∧ y6 < 32) → (∀ q : Nat, q < 5 → (zbt y6 q ↔ (q < p + 1 ∧ t.2 q = g))) → zE X true l d 0 0 y_World_play 35 [some (11, 0, a), some (10, 0, 106), some (0, 0, (G : Int)), some (0, 0, zSt m (W g).2 g), some (0, 0, zGn m (W g).2 g), some (0, 0, (g : Int)), some (0, 0, y6), some (0, 0, (p : Int) + 1)] [] ν2 (zri Q) := fun t ht ν2 y6 r1 r2 r3 r4 r5 => by
        subst ht
        exact ih (p + 1) (by omega) ν2 y6 r1 r2 r3 r4 r5
      unfold zdrw at nx
      rw [hs] at nx
      refine s_World_play_35 (a1 := 106) (d1 := 2) (by omega) ⟨fun c => absurd c (by omega), fun _ => ⟨fun c => absurd c (by omega), fun _ => ⟨fun c => ?_, fun c => ?_⟩⟩⟩
      · have ne : s.2 p = -1 := by
          rw [ep]
          exact Decidable.byContradiction fun q => c (wp.mpr q)
        rw [if_neg (fun q => q ne)] at nx
        have es : zw (zreml (zwl (zwl (ν a 0 * 1103) + 12345)) 1000003) = (s.1 * 1103 + 12345) % 1000003 := by
          rw [n2, zwl_id (x := s.1 * 1103) (by omega) (by omega), zwl_id (by omega) (by omega), zreml_of (by omega) (by omega) (by decide) (by decide), zw_of (by omega) (by omega)]
        rw [es]
        have f1 : ∀ b : Int, b ≠ a → zup ν a 0 ((s.1 * 1103 + 12345) % 1000003) b = ν b := fun b hb => zup_ne hb
        obtain ⟨d1, d2, d3⟩ := key (zup ν a 0 ((s.1 * 1103 + 12345) % 1000003)) (fun b b0 b1 b2 b3 => by rw [f1 b b0]; exact n1 b b0 b1 b2 b3)
        refine k_chanceOf (law := law) (by omega) d1 hD d2 (by omega) (by omega) (by omega) (by omega) (fun ν4 t1 => ?_)
        rw [zup_hit, d3, zremi_100 (by omega) (by omega), zw_of (x := (p : Int) + 1) (by omega) (by omega)]
        have f4 : ∀ b : Int, b ≠ a → b ≠ a + 1 → b ≠ 119 → b ≠ 120 → ν4 b = μ b := fun b b0 b1 b2 b3 => by rw [t1 b b2 b3, f1 b b0]; exact n1 b b0 b1 b2 b3
        have f5 : ν4 a 0 = (s.1 * 1103 + 12345) % 1000003 := by rw [t1 a (by omega) (by omega), zup_hit]
        have f6 : ν4 (a + 1) = ν (a + 1) := by rw [t1 (a + 1) (by omega) (by omega), f1 _ (by omega)]
        refine ⟨fun le => nx _ (if_pos le) ν4 x6 f4 f5 (fun q q0 q1 => by rw [f6]; exact n3 q q0 q1) x60 (fun q hq => ?_), fun gt => ⟨by omega, ?_⟩⟩
        · rw [hx q hq]
          constructor
          · rintro ⟨r1, r2⟩; exact ⟨by omega, r2⟩
          · rintro ⟨r1, r2⟩
            by_cases e : q = p
            · rw [e] at r2; dsimp only at r2; omega
            · exact ⟨by omega, r2⟩
        · have sh := zb_shl0 p (by omega)
          have o := zb_or x60 sh.1
          refine nx _ (if_neg gt) (zup ν4 (a + 1) p g) (zor x6 (zshl 1 p)) (fun b b0 b1 b2 b3 => (zup_ne b1).trans (f4 b b0 b1 b2 b3)) (by rw [zup_ne (by omega)]; exact f5) (fun q q0 q1 => ?_) o.1 (fun q hq => ?_)
          · rw [zup_val, f6, n3 q q0 q1]
            rfl
          · rw [o.2 q hq, hx q hq]
            have s2 := sh.2 q hq
            dsimp only [zsu]
            constructor
            · rintro (⟨r1, r2⟩ | r)
              · exact ⟨by omega, by rw [if_neg (by omega)]; exact r2⟩
              · have e := s2.mp r
                exact ⟨by omega, by rw [if_pos (by omega)]⟩
            · rintro ⟨r1, r2⟩
              by_cases e : q = p
              · exact Or.inr (s2.mpr e)
              · rw [if_neg (by omega)] at r2
                exact Or.inl ⟨by omega, r2⟩
      · have ne : s.2 p ≠ -1 := by rw [ep]; exact wp.mp c
        rw [if_pos ne] at nx
        rw [zw_of (x := (p : Int) + 1) (by omega) (by omega)]
        refine nx s rfl ν x6 n1 n2 n3 x60 (fun q hq => ?_)
        rw [hx q hq]
        constructor
        · rintro ⟨r1, r2⟩; exact ⟨by omega, r2⟩
        · rintro ⟨r1, r2⟩
          by_cases e : q = p
          · have := w3 p
            rw [e, ep] at r2
            omega
          · exact ⟨by omega, r2⟩
  have l16 : ∀ k g : Nat, g + k = G → ∀ ν : zM, (∀ b : Int, b ≠ a → b ≠ a + 1 → b ≠ 119 → b ≠ 120 → ν b = μ b) → ν a 0 = (W g).1 → (∀ p : Int, 0 ≤ p → p < 5 → ν (a + 1) p = (W g).2 p) → zE X true l d 0 0 y_World_play 16 [some (11, 0, a), some (10, 0, 106), some (0, 0, (G : Int)), some (0, 0, zSt m (W g).2 g), some (0, 0, zGn m (W g).2 g), some (0, 0, (g : Int)), none, none] [] ν (zri Q) := by
    intro k
    induction k with
    | zero =>
      intro g hg ν n1 n2 n3
      obtain rfl : g = G := by omega
      refine s_World_play_16 ⟨fun _ => ?_, fun c => absurd (by omega) c⟩
      have bd := zSt_bd (m := m) (w := (W g).2) (g := g) m5
      have bS := zmsk_b (f := fun p => decide ((W g).2 p ≠ -1 ∧ (W g).2 p = (g : Int) - 1)) m m5
      have bG := zmsk_b (f := fun p => decide ((W g).2 p ≠ -1 ∧ (W g).2 p < (g : Int) - 1)) m m5
      have bA := zmsk_b (f := fun p => decide ((W g).2 p ≠ -1)) m m5
      have bO := zb_or bd.1 bd.2
      have e : zor (zSt m (W g).2 g) (zGn m (W g).2 g) = zall m (W g).2 := by
        refine zb_ext bO.1 bA.1 (fun q hq => ?_)
        rw [bO.2 q hq, show zbt (zSt m (W g).2 g) q ↔ _ from bS.2 q hq, show zbt (zGn m (W g).2 g) q ↔ _ from bG.2 q hq, show zbt (zall m (W g).2) q ↔ _ from bA.2 q hq]
        have := (ok g).2 q
        constructor
        · rintro (⟨r1, r2⟩ | ⟨r1, r2⟩)
          · exact ⟨r1, decide_eq_true (of_decide_eq_true r2).1⟩
          · exact ⟨r1, decide_eq_true (of_decide_eq_true r2).1⟩
        · rintro ⟨r1, r2⟩
          have r3 := of_decide_eq_true r2
          by_cases e : (W g).2 q = (g : Int) - 1
          · exact Or.inl ⟨r1, decide_eq_true ⟨r3, e⟩⟩
          · exact Or.inr ⟨r1, decide_eq_true ⟨r3, by omega⟩⟩
      rw [e]
      exact hQ ν n1 n2 n3
    | succ k ih =>
      intro g hg ν n1 n2 n3
      refine s_World_play_16 ⟨fun c => absurd c (by omega), fun _ => ⟨fun c => absurd c (by omega), fun _ => ?_⟩⟩
      refine l35 g (by omega) (fun ν2 r1 r2 r3 => ih (g + 1) (by omega) ν2 r1 r2 r3) m 0 (by omega) ν 0 n1 n2 n3 (by decide) (fun q hq => ⟨fun r => absurd r (zb_z0 q hq), fun r => by omega⟩)
  refine c_World_play (d1 := 2) (by omega) (k_fill (by decide) ?_)
  have z := zSt_z m5 (w := (W 0).2) (fun q => by rw [← hW' 0]; rfl) ((0 : Nat) : Int)
  have := l16 G 0 (by omega) (zfl μ (a + 1) 0 ((5 : Nat) : Int) (-1)) (fun b b0 b1 _ _ => zfl_ne b1) (by rw [zfl_ne (by omega), ← hW' 0]; rfl) (fun p p0 p1 => by rw [zfl_in ⟨p0, by omega⟩, ← hW' 0]; rfl)
  rw [z.1, z.2] at this
  exact this
end

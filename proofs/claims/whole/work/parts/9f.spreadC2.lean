section
variable {X : zX} {l : Launch} {d : Nat} {μ : zM}
theorem k_R_spread {tt m t who g : Nat} {o a a1 r : Int} {δ : Nat → Int → Int} {law : Option zLaw} {A : Nat → Int} {Q : zM → Prop} (hta : tt = 20 ∧ o = 13 ∧ a = 121 ∨ tt = 21 ∧ o = 14 ∧ a = 122) (hd : 3 ≤ d) (hC : zCd μ δ) (hD : zDb δ) (hL : zCL μ law) (m5 : m ≤ 5) (hw : who < m) (hg : g ≤ 12) (h1 : μ 105 1 = who) (h2 : μ 105 2 = g) (h3 : μ 105 3 = m) (ht : t < 3 ^ m) (hf : zeF t who = 0) (hr : zBv μ a1 15 r) (ha1 : 134 ≤ a1 ∧ a1 < 1106 ∧ (a1 - (a + o)) % 4 = 2) (r1 : r * 100 ^ m ≤ 100 ^ 65) (hS : zBig μ 124 15) (hA : ∀ u : Nat, u < 243 → zBv μ (a + o + 4 * u) 15 (A u)) (hA2 : ∀ u : Nat, u < 243 → A u ≤ 100 ^ 65 * 32768)
    (hQ : ∀ ν, (∀ b : Int, ¬ (119 ≤ b ∧ b ≤ 120) → ¬ (123 ≤ b ∧ b ≤ 125) → ¬ (a + o ≤ b ∧ b < a + o + 972 ∧ (b - (a + o)) % 4 ≤ 1) → ν b = μ b) → zBig ν 124 15 → (∀ u : Nat, u < 243 → zBv ν (a + o + 4 * u) 15 (A u + ztot (fun go => zeK (fun _ => r) (fun p s go => zcg δ law (μ 106 5) p g s go) m who t go u) (2 ^ m))) → Q ν) : zCv X true l d 0 0 y_Reckoner_spread [(6, 0, 105), (2, 15, a1), (0, 0, zeS 1 m t), (0, 0, zeS 2 m t), ((tt + 2), 243, a)] μ Q := by
  have hto : tt = 20 ∧ o = 13 ∨ tt = 21 ∧ o = 14 := by omega
  generalize hcha : (fun (p : Nat) (s go : Int) => zcg δ law (μ 106 5) p g s go) = cha at *
  have hcha' : ∀ (p : Nat) (s go : Int), zcg δ law (μ 106 5) p g s go = cha p s go := fun p s go => by rw [← hcha]
  have cb : ∀ (p : Nat) (s go : Int), 0 ≤ cha p s go ∧ cha p s go ≤ 100 := fun p s go => by rw [← hcha']; exact zcg_bd
  have two := zpow2 m5
  have three := zpow3 m5
  have r0 := hr.bd.1
  have P100 : (0 : Int) < 100 ^ m := Int.pow_pos (by decide)
  have H0 : (0 : Int) < 100 ^ 65 := Int.pow_pos (by decide)
  have big : (100 : Int) ^ 65 * 40000 < zpw 15 := by
    rw [zpw_ten, zhun]
    have e : (10 : Int) ^ (9 * 15) = 10 ^ (2 * 65) * 10 ^ 5 := by rw [← Int.pow_add]
    have := zten_pos (2 * 65)
    have q := Int.mul_lt_mul_of_pos_left (show (40000 : Int) < 10 ^ 5 by decide) this
    omega
  have O := zeO_b (who := who) (t := t) m5
  have Or := zeOr (t := t) m5
  generalize hch : (fun p : Nat => cha p (zeS 1 m t) (zeS 2 m t)) = ch at *
  have chb : ∀ p : Nat, 0 ≤ ch p ∧ ch p ≤ 100 := fun p => by rw [← hch]; exact cb p _ _
  have chw := chb who
  have rs : 0 ≤ r * (100 - ch who) ∧ r * (100 - ch who) ≤ 100 ^ 65 := by
    have := zmulb r0 (Int.le_refl r) (show 0 ≤ 100 - ch who by omega) (show 100 - ch who ≤ 100 ^ m by
      have := zhm_mono (m := 1) (n := m) (by omega)
      omega)
    omega
  -- the terms
  have Tbd : ∀ (go : Int) (u : Nat), 0 ≤ zeK (fun _ => r) cha m who t go u ∧ zeK (fun _ => r) cha m who t go u ≤ 100 ^ 65 := fun go u => by
    unfold zeK zeT
    dsimp only
    have a := zeP_bd (f := zeW (fun p => cha p (zeS 1 m t) (zeS 2 m t)) t go) m (fun p _ => zeW_bd (fun p => cb p _ _))
    have := zmulb r0 (Int.le_refl r) a.1 a.2
    split
    · omega
    · split <;> omega
  -- the ways to go
  have l126 : ∀ (k go : Nat), go + k = 2 ^ m → ∀ ν : zM, (∀ b : Int, ¬ (119 ≤ b ∧ b ≤ 120) → ¬ (123 ≤ b ∧ b ≤ 125) → ¬ (a + o ≤ b ∧ b < a + o + 972 ∧ (b - (a + o)) % 4 ≤ 1) → ν b = μ b) → (∀ p : Nat, p < m → zeF t p = 0 → ν 123 p = ch p) → zBv ν 124 15 (r * (100 - ch who)) → (∀ u : Nat, u < 243 → zBv ν (a + o + 4 * u) 15 (A u + ztot (fun go => zeK (fun _ => r) cha m who t go u) go)) → zE X true l d 0 0 y_Reckoner_spread 126 [some (6, 0, 105), none, some (0, 0, zeS 1 m t), some (0, 0, zeS 2 m t), some ((tt + 2), 243, a), some (0, 0, zeO who m t), some (0, 0, (go : Int)), none, none] [] ν (zrn Q) := by
    intro k
    have fin : ∀ go : Nat, go ≤ 2 ^ m → zeO who m t < go → ∀ u : Nat, ztot (fun go => zeK (fun _ => r) cha m who t go u) go = ztot (fun go => zeK (fun _ => r) cha m who t go u) (2 ^ m) := fun go hle hlt u => by
      obtain ⟨n, hn⟩ : ∃ n, 2 ^ m = go + n := ⟨2 ^ m - go, by omega⟩
      rw [hn, ztot_add, ztot_zero n (fun i hi => ?_), Int.add_zero]
      unfold zeK
      split
      · rfl
      · rename_i nw
        have lt : go + i < 2 ^ m := by omega
        have hex : ∃ p : Nat, p < m ∧ zand (zshr ((go + i : Nat) : Int) (p : Nat)) 1 = 1 ∧ ¬ zeF t p = 0 := by
          refine Classical.byContradiction fun no => ?_
          have sub : zand ((go + i : Nat) : Int) (zxor (zeO who m t) (-1)) = 0 := (zeSub (by omega) O.1).mpr (fun p hp hbit => (O.2 p hp).mpr (by
            have pm : p < m := by
              refine Decidable.byContradiction fun q => ?_
              exact zeb_top m (by omega) _ lt p hp (by omega) hbit
            refine ⟨pm, Decidable.byContradiction fun q => no ⟨p, pm, hbit, q⟩, fun e => ?_⟩
            rw [e] at hbit
            exact nw hbit))
          have := zeb_le (go + i) (by omega) (zeO who m t).toNat (by omega) (by rw [Int.toNat_of_nonneg O.1.1]; exact sub)
          omega
        obtain ⟨p, pm, hbit, pz⟩ := hex
        have z : zeP (zeW (fun p => cha p (zeS 1 m t) (zeS 2 m t)) t ((go + i : Nat) : Int)) m = 0 := zeP_zero (p := p) (by unfold zeW; rw [if_pos hbit, if_neg pz]) m pm
        unfold zeT
        split
        · rw [z, Int.mul_zero]
        · rfl
    induction k with
    | zero =>
      intro go hgo ν q1 q2 q3 q4
      have e : go = 2 ^ m := by omega
      rw [e] at q4
      have hO : zeO who m t < go := by
        have := zeb_low m (by omega) (zeO who m t).toNat (by omega) (fun p hp hmp q => by
          rw [Int.toNat_of_nonneg O.1.1] at q
          have := (O.2 p hp).mp q
          omega)
        omega
      exact s_Reckoner_spread_126 (a0 := 105) (a4 := a) (d1 := 2) hto (by omega) ⟨fun _ => hQ ν q1 q3.1 q4, fun c => absurd hO c⟩
    | succ k ih =>
      intro go hgo ν q1 q2 q3 q4
      have lt : go < 2 ^ m := by omega
      have e31 : zand (zor (zeS 1 m t) (zeS 2 m t)) 31 = zor (zeS 1 m t) (zeS 2 m t) := by
        have := zeb_31 (zor (zeS 1 m t) (zeS 2 m t)).toNat (by omega)
        rw [Int.toNat_of_nonneg Or.1.1] at this
        exact this
      refine s_Reckoner_spread_126 (a0 := 105) (a4 := a) (d1 := 2) hto (by omega) ⟨fun c => hQ ν q1 q3.1 (fun u hu => by rw [← fin go (by omega) c u]; exact q4 u hu), fun c0 => ⟨fun c => absurd c (by omega), fun _ => ⟨by omega, by rw [e31]; omega, fun c => ?_, fun c => ?_⟩⟩⟩
      · -- not within those who sit
        refine s_Reckoner_spread_183 (a0 := 105) (a4 := a) (d1 := 2) hto (by omega) ⟨fun _ => ?_, fun q => absurd rfl q⟩
        rw [zw_of (by omega) (by omega)]
        refine ih (go + 1) (by omega) ν q1 q2 q3 (fun u hu => ?_)
        have e0 : zeK (fun _ => r) cha m who t go u = 0 := by
          unfold zeK
          split
          · rfl
          · rename_i nw
            have hex : ∃ p : Nat, p < m ∧ zand (zshr (go : Int) (p : Nat)) 1 = 1 ∧ ¬ zeF t p = 0 := by
              refine Classical.byContradiction fun no => c ((zeSub (by omega) O.1).mpr (fun p hp hbit => (O.2 p hp).mpr (by
                have pm : p < m := by
                  refine Decidable.byContradiction fun q => ?_
                  exact zeb_top m (by omega) _ lt p hp (by omega) hbit
                refine ⟨pm, Decidable.byContradiction fun q => no ⟨p, pm, hbit, q⟩, fun e => ?_⟩
                rw [e] at hbit
                exact nw hbit)))
            obtain ⟨p, pm, hbit, pz⟩ := hex
            have z : zeP (zeW (fun p => cha p (zeS 1 m t) (zeS 2 m t)) t (go : Int)) m = 0 := zeP_zero (p := p) (by unfold zeW; rw [if_pos hbit, if_neg pz]) m pm
            unfold zeT
            split
            · rw [z, Int.mul_zero]
            · rfl
        rw [ztot_s, e0, Int.add_zero]
        exact q4 u hu
      · have sub := (zeSub (by omega) O.1).mp c
        have hs : ∀ p : Nat, p < m → zand (zshr (go : Nat) (p : Nat)) 1 = 1 → zeF t p = 0 := fun p pm hbit => ((O.2 p (by omega)).mp (sub p (by omega) hbit)).2.1
        have nw : ¬ zand (zshr (go : Nat) (who : Nat)) 1 = 1 := fun q => ((O.2 who (by omega)).mp (sub who (by omega) q)).2.2 rfl
        have gt := zeG_thr (t := t) m5 lt hs
        have gl := zeG_lt (m := m) (t := t) (go := (go : Int))
        have n1 : ν 105 1 = who := by rw [q1 105 (by omega) (by omega) (by omega)]; exact h1
        have n3 : ν 105 3 = m := by rw [q1 105 (by omega) (by omega) (by omega)]; exact h3
        have rng : ∀ k : Nat, k < 32 → 0 ≤ zthrees k ∧ zthrees k ≤ 121 := by decide
        have ra := rng go (by omega)
        have rb := rng (zor (zeS 1 m t) (zeS 2 m t)).toNat (by omega)
        refine k_waysToGo (ch := ch) m5 hw n3 n1 lt chb q2 hs ?_
        rw [e31, Int.toNat_natCast, zw_of (x := 2 * zthrees _) (by omega) (by omega), zw_of (x := zthrees go + 2 * zthrees _) (by omega) (by omega), gt]
        have Wb : ∀ p : Nat, 0 ≤ zeW ch t go p ∧ zeW ch t go p ≤ 100 := fun p => zeW_bd chb
        have fb := zeP_one (w := who) Wb m
        rw [if_pos hw] at fb
        have f4 : (100 : Int) ^ (m - 1) ≤ 100 ^ 4 := zhm_mono (by omega)
        rw [show (100 : Int) ^ 4 = 100000000 by decide] at f4
        -- what is added
        have prod : ∀ u : Nat, zeK (fun _ => r) cha m who t go u = if zeG m t go = u then r * (100 - ch who) * zeP (fun q => if q = who then 1 else zeW ch t go q) m else 0 := fun u => by
          unfold zeK
          rw [if_neg nw]
          unfold zeT
          have e1 : zeP (zeW (fun p => cha p (zeS 1 m t) (zeS 2 m t)) t go) m = zeP (fun q => if q = who then 1 else zeW ch t go q) m * (100 - ch who) := by
            rw [hch, zeP_skip m hw]
            congr 1
            unfold zeW
            rw [if_neg nw, if_pos hf]
          by_cases e : zeG m t go = u
          · rw [if_pos e, if_pos e, e1, Int.mul_assoc, Int.mul_comm (zeP _ m)]
          · rw [if_neg e, if_neg e]
        have cont : ∀ ν3 : zM, (∀ b : Int, ¬ (119 ≤ b ∧ b ≤ 120) → ¬ (123 ≤ b ∧ b ≤ 125) → ¬ (a + o ≤ b ∧ b < a + o + 972 ∧ (b - (a + o)) % 4 ≤ 1) → ν3 b = μ b) → (∀ b : Int, 119 ≤ b → b ≤ 125 → ν3 b = ν b) → (∀ u : Nat, u < 243 → zBv ν3 (a + o + 4 * u) 15 (A u + ztot (fun go => zeK (fun _ => r) cha m who t go u) (go + 1))) → zE X true l d 0 0 y_Reckoner_spread 126 [some (6, 0, 105), none, some (0, 0, zeS 1 m t), some (0, 0, zeS 2 m t), some ((tt + 2), 243, a), some (0, 0, zeO who m t), some (0, 0, zw ((go : Int) + 1)), none, none] [] ν3 (zrn Q) := fun ν3 p1 p2 p3 => by
          rw [zw_of (by omega) (by omega)]
          exact ih (go + 1) (by omega) ν3 p1 (fun p hp hz => by rw [p2 123 (by omega) (by omega)]; exact q2 p hp hz) (q3.keep (p2 _ (by omega) (by omega)) (p2 _ (by omega) (by omega))) p3
        generalize hF : zeP (fun q => if q = who then 1 else zeW ch t go q) m = F at *
        refine s_Reckoner_spread_183 (a0 := 105) (a4 := a) (o4 := o) (d1 := 2) hto (by omega) ⟨fun z => ?_, fun z => ⟨fun q => absurd q (by omega), fun _ => ⟨by omega, ?_⟩⟩⟩
        · refine cont ν q1 (fun _ _ _ => rfl) (fun u hu => ?_)
          rw [ztot_s, prod u, z, Int.mul_zero, ite_self, Int.add_zero]
          exact q4 u hu
        · simp only [Int.reduceAdd]
          have hu : zeG m t go < 243 := by omega
          have sb := ztot_bd (c := fun i => zeK (fun _ => r) cha m who t i (zeG m t go)) (B := 100 ^ 65) (go + 1) (fun i _ => Tbd i _)
          have sb2 := Int.mul_le_mul_of_nonneg_left (show ((go + 1 : Nat) : Int) ≤ 32 by omega) (Int.le_of_lt H0)
          have a2 := hA2 _ hu
          have pr := prod (zeG m t go)
          rw [if_pos rfl] at pr
          rw [ztot_s, pr] at sb
          refine k_addTimes (a := a + o + 4 * (zeG m t go : Nat)) (a1 := 124) (L := 15) (by omega) (by omega) (q4 _ hu) q3 (by omega) (by omega) (by omega) (by omega) (fun ν3 s1 s2 => ?_)
          refine cont ν3 (fun b b0 b1 b2 => by rw [s1 b (by omega) (by omega)]; exact q1 b b0 b1 b2) (fun b b0 b1 => s1 b (by omega) (by omega)) (fun u hu' => ?_)
          rw [ztot_s, prod u]
          by_cases e : zeG m t go = u
          · rw [if_pos e, ← e, ← Int.add_assoc]
            exact s2
          · rw [if_neg e, Int.add_zero]
            exact (q4 u hu').keep (s1 _ (by omega) (by omega)) (s1 _ (by omega) (by omega))
  -- the chances
  have l6 : ∀ k i : Nat, i + k = m → ∀ ν : zM, (∀ b : Int, ¬ (119 ≤ b ∧ b ≤ 120) → b ≠ 123 → ν b = μ b) → (∀ p : Nat, p < i → zeF t p = 0 → ν 123 p = ch p) → zE X true l d 0 0 y_Reckoner_spread 6 [some (6, 0, 105), some (2, 15, a1), some (0, 0, zeS 1 m t), some (0, 0, zeS 2 m t), some ((tt + 2), 243, a), some (0, 0, zeO who i t), some (0, 0, (i : Int)), none, none] [] ν (zrn Q) := by
    intro k
    induction k with
    | zero =>
      intro i hi ν q1 q2
      obtain rfl : i = m := by omega
      have n1 : ν 105 1 = who := by rw [q1 105 (by omega) (by omega)]; exact h1
      have n3 : ν 105 3 = i := by rw [q1 105 (by omega) (by omega)]; exact h3
      refine s_Reckoner_spread_6 (a0 := 105) (a4 := a) (d1 := 2) hto (by omega) ⟨fun _ => ?_, fun c => absurd (by omega) c⟩
      refine s_Reckoner_spread_82 (a0 := 105) (a4 := a) (d1 := 2) hto (by omega) ?_
      simp only [Int.reduceAdd]
      have kp : ∀ b : Int, ¬ (119 ≤ b ∧ b ≤ 120) → b ≠ 123 → ν b = μ b := q1
      refine k_setBig (a := 124) (a1 := a1) (L := 15) (by omega) (by omega) (hS.keep (kp _ (by omega) (by omega)) (kp _ (by omega) (by omega))) (hr.keep (kp _ (by omega) (by omega)) (kp _ (by omega) (by omega))) (by omega) (fun ν1 s1 s2 => ?_)
      have m1 : ν1 105 1 = who := by rw [s1 105 (by omega) (by omega)]; exact n1
      have m23 : ν1 123 who = ch who := by rw [s1 123 (by omega) (by omega)]; exact q2 who hw hf
      rw [m1]
      refine k_S_isPerson (fun _ _ => ⟨⟨fun _ => trivial, fun _ => by omega⟩, ?_⟩) (fun c => absurd (by omega) c)
      rw [if_neg (by decide), m1, m23, zw_of (x := 100 - ch who) (by omega) (by omega)]
      refine k_timesSmall (a := 124) (L := 15) (by omega) (by omega) s2 (by omega) (by omega) (by omega) (fun ν8 u1 u2 => ?_)
      have f8 : ∀ b : Int, ¬ (119 ≤ b ∧ b ≤ 120) → ¬ (123 ≤ b ∧ b ≤ 125) → ν8 b = μ b := fun b b0 b1 => by rw [u1 b (by omega) (by omega), s1 b (by omega) (by omega)]; exact q1 b b0 (by omega)
      refine l126 (2 ^ i) 0 (by omega) ν8 (fun b b0 b1 _ => f8 b b0 b1) (fun p hp hz => by rw [u1 123 (by omega) (by omega), s1 123 (by omega) (by omega)]; exact q2 p hp hz) u2 (fun u hu => ?_)
      rw [show ztot (fun go => zeK (fun _ => r) cha i who t go u) 0 = 0 from rfl, Int.add_zero]
      exact (hA u hu).keep (f8 _ (by omega) (by omega)) (f8 _ (by omega) (by omega))
    | succ k ih =>
      intro i hi ν q1 q2
      have n1 : ν 105 1 = who := by rw [q1 105 (by omega) (by omega)]; exact h1
      have n2 : ν 105 2 = g := by rw [q1 105 (by omega) (by omega)]; exact h2
      have n3 : ν 105 3 = m := by rw [q1 105 (by omega) (by omega)]; exact h3
      have bO := Or.2.1 i (by omega)
      have b01 := zeb_Z Or.1 i (by omega)
      have Oi := zeO_b (who := who) (m := i) (t := t) (by omega)
      have nx := ih (i + 1) (by omega)
      refine s_Reckoner_spread_6 (a0 := 105) (a4 := a) (d1 := 2) hto (by omega) ⟨fun c => absurd c (by omega), fun _ => ⟨fun c => absurd c (by omega), fun _ => ⟨fun c => ?_, fun c => ?_⟩⟩⟩
      · have f0 : ¬ zeF t i = 0 := (bO.mp (by omega)).2
        rw [zw_of (by omega) (by omega)]
        have := nx ν q1 (fun p hp hz => by
          by_cases e : p = i
          · rw [e] at hz; exact absurd hz f0
          · exact q2 p (by omega) hz)
        rw [zeO_s, if_neg (fun q => f0 q.1)] at this
        have e0 : zor (zeO who i t) 0 = zeO who i t := by
          have := zeb_or0 (zeO who i t).toNat (by omega)
          rw [Int.toNat_of_nonneg Oi.1.1] at this
          exact this
        rw [e0] at this
        exact this
      · have f0 : zeF t i = 0 := Decidable.byContradiction fun q => by
          have := bO.mpr ⟨by omega, q⟩
          omega
        simp only [Int.reduceAdd]
        rw [n2]
        refine k_chanceOf12 (δ := δ) (law := law) (by omega) (hC.keep (fun b b0 b1 => q1 b (by omega) (by omega))) hD (hL.keep (fun b hb => q1 b (by omega) (by omega))) (by omega) (by omega) (by omega) (fun ν4 t1 => ⟨by omega, ?_⟩)
        rw [q1 106 (by omega) (by omega), hcha', show cha i (zeS 1 m t) (zeS 2 m t) = ch i by rw [← hch]]
        have e105 : zup ν4 123 i (ch i) 105 1 = who := by rw [zup_ne (show (105 : Int) ≠ 123 by decide), t1 105 (by omega) (by omega), n1]
        simp only [e105]
        rw [zw_of (by omega) (by omega)]
        have := nx (zup ν4 123 i (ch i)) (fun b b0 b1 => by rw [zup_ne b1, t1 b (by omega) (by omega)]; exact q1 b b0 b1) (fun p hp hz => by
          rw [zup_val]
          by_cases e : p = i
          · rw [if_pos (by omega), e]
          · rw [if_neg (by omega), t1 123 (by omega) (by omega)]; exact q2 p (by omega) hz)
        rw [zeO_s] at this
        have e : (if ¬ (i : Int) = (who : Int) then zshl 1 (i : Int) else 0) = if zeF t i = 0 ∧ i ≠ who then zshl 1 (i : Int) else 0 := by
          by_cases q : i = who
          · rw [if_neg (by omega), if_neg (fun w => w.2 q)]
          · rw [if_pos (by omega), if_pos ⟨f0, q⟩]
        rw [e]
        exact this
  exact c_Reckoner_spread hto (l6 m 0 (by omega) μ (fun _ _ _ => rfl) (fun p hp => by omega))
end

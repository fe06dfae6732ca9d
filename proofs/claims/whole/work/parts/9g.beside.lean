theorem zeT_bd2 {cha : Nat → Nat → Int → Int → Int} {m g t u : Nat} {go : Int} (hm : m ≤ 5) (hg : g ≤ 12) (ht : t < 3 ^ m) (hc : ∀ g p s go, 0 ≤ cha g p s go ∧ cha g p s go ≤ 100) : 0 ≤ zeT (zeR cha m g) (cha g) m t go u ∧ zeT (zeR cha m g) (cha g) m t go u ≤ 100 ^ 65 := by
  have p : (0 : Int) < 100 ^ 65 := Int.pow_pos (by decide)
  unfold zeT
  split
  · have a := zeP_bd (f := zeW (fun p => cha g p (zeS 1 m t) (zeS 2 m t)) t go) m (fun p _ => zeW_bd (fun p => hc g p _ _))
    have b := zmulb (zeR_nn hc g t) (zeR_bd hm hc (g := g) ht) a.1 a.2
    rw [← Int.pow_add] at b
    have hle : m * g + m ≤ 65 := by
      have := Nat.mul_le_mul hm (show g + 1 ≤ 13 by omega)
      rw [Nat.mul_add] at this
      omega
    have := zhm_mono hle
    omega
  · omega
section
variable {X : zX} {l : Launch} {d : Nat} {μ : zM}
theorem k_clearStates {tt : Nat} {o a : Int} {Q : zM → Prop} (hta : tt = 20 ∧ o = 13 ∧ a = 121 ∨ tt = 21 ∧ o = 14 ∧ a = 122) (hd : 1 ≤ d) (hb : ∀ s : Nat, s < 243 → zBig μ (a + o + 4 * s) 15) (hQ : ∀ ν, (∀ b : Int, ¬ (a + o ≤ b ∧ b < a + o + 972 ∧ (b - (a + o)) % 4 ≤ 1) → ν b = μ b) → (∀ s : Nat, s < 243 → zBv ν (a + o + 4 * s) 15 0) → Q ν) : zCv X true l d 0 0 y_Reckoner_clearStates [((tt + 2), 243, a)] μ Q := by
  have hto : tt = 20 ∧ o = 13 ∨ tt = 21 ∧ o = 14 := by omega
  have loop : ∀ k i : Nat, i + k = 243 → ∀ ν : zM, (∀ b : Int, ¬ (a + o ≤ b ∧ b < a + o + 4 * i ∧ (b - (a + o)) % 4 ≤ 1) → ν b = μ b) → (∀ s : Nat, s < i → zBv ν (a + o + 4 * s) 15 0) → zE X true l d 0 0 y_Reckoner_clearStates 2 [some ((tt + 2), 243, a), some (0, 0, (i : Int))] [] ν (zrn Q) := by
    intro k
    induction k with
    | zero =>
      intro i hi ν q1 q2
      obtain rfl : i = 243 := by omega
      exact s_Reckoner_clearStates_2 (a0 := a) (d1 := 0) hto (by omega) ⟨fun _ => hQ ν q1 q2, fun c => absurd (by decide) c⟩
    | succ k ih =>
      intro i hi ν q1 q2
      refine s_Reckoner_clearStates_2 (a0 := a) (d1 := 0) hto (by omega) ⟨fun c => absurd c (by omega), fun _ => ⟨fun c => absurd c (by omega), fun _ => ⟨by omega, ?_⟩⟩⟩
      refine k_setZero (a := a + o + 4 * (i : Int)) (L := 15) (by omega) ((hb i (by omega)).keep (q1 _ (by omega)) (q1 _ (by omega))) (fun ν3 s1 s2 _ _ => ?_)
      rw [zw_of (by omega) (by omega)]
      refine ih (i + 1) (by omega) ν3 (fun b hb' => (s1 b (by omega) (by omega)).trans (q1 b (by omega))) (fun s hs => ?_)
      by_cases e : s = i
      · rw [e]; exact s2
      · exact (q2 s (by omega)).keep (s1 _ (by omega) (by omega)) (s1 _ (by omega) (by omega))
  exact c_Reckoner_clearStates hto (loop 243 0 (by omega) μ (fun _ _ => rfl) (fun s hs => by omega))
theorem k_stepBeside {t1 t2 m who g : Nat} {o1 a1 o2 a2 : Int} {δ : Nat → Int → Int} {law : Option zLaw} {Q : zM → Prop} (h12 : (t1 = 20 ∧ o1 = 13 ∧ a1 = 121) ∧ (t2 = 21 ∧ o2 = 14 ∧ a2 = 122) ∨ (t1 = 21 ∧ o1 = 14 ∧ a1 = 122) ∧ (t2 = 20 ∧ o2 = 13 ∧ a2 = 121)) (hd : 4 ≤ d) (hC : zCd μ δ) (hD : zDb δ) (hL : zCL μ law) (m5 : m ≤ 5) (hw : who < m) (hg : g ≤ 12) (h1 : μ 105 1 = who) (h2 : μ 105 2 = g) (h3 : μ 105 3 = m) (hS : zBig μ 124 15)
    (hF : ∀ s : Nat, s < 243 → zBv μ (a1 + o1 + 4 * s) 15 (zeV (fun g p s go => zcg δ law (μ 106 5) p g s go) m who g s)) (hT : ∀ s : Nat, s < 243 → zBig μ (a2 + o2 + 4 * s) 15)
    (hQ : ∀ ν, (∀ b : Int, b ≠ 105 → ¬ (119 ≤ b ∧ b ≤ 120) → ¬ (123 ≤ b ∧ b ≤ 125) → ¬ (a2 + o2 ≤ b ∧ b < a2 + o2 + 972 ∧ (b - (a2 + o2)) % 4 ≤ 1) → ν b = μ b) → (∀ j : Int, j ≠ 2 → j ≠ 6 → ν 105 j = μ 105 j) → ν 105 2 = ((g + 1 : Nat) : Int) → ν 105 6 = (if ¬ μ 105 6 = 0 then 0 else 1) → zBig ν 124 15 → (∀ s : Nat, s < 243 → zBv ν (a2 + o2 + 4 * s) 15 (zeV (fun g p s go => zcg δ law (μ 106 5) p g s go) m who (g + 1) s)) → Q ν) : zCv X true l d 0 0 y_Reckoner_stepBeside [(6, 0, 105), ((t1 + 2), 243, a1), ((t2 + 2), 243, a2)] μ Q := by
  have ht1 : t1 = 20 ∧ o1 = 13 ∨ t1 = 21 ∧ o1 = 14 := by omega
  have ht2 : t2 = 20 ∧ o2 = 13 ∨ t2 = 21 ∧ o2 = 14 := by omega
  generalize hcha : (fun (g p : Nat) (s go : Int) => zcg δ law (μ 106 5) p g s go) = cha at *
  have hcha' : (fun (p : Nat) (s go : Int) => zcg δ law (μ 106 5) p g s go) = cha g := by rw [← hcha]
  have cb : ∀ (g p : Nat) (s go : Int), 0 ≤ cha g p s go ∧ cha g p s go ≤ 100 := fun g p s go => by rw [← hcha]; exact zcg_bd
  have two := zpow2 m5
  have three := zpow3 m5
  have H0 : (0 : Int) < 100 ^ 65 := Int.pow_pos (by decide)
  generalize hD2 : (fun (u j : Nat) => if zand ((j / 2 ^ m : Nat) : Int) ((j % 2 ^ m : Nat) : Int) = 0 then zeKE (zeR cha m g) (cha g) m who (zthrees (j / 2 ^ m) + 2 * zthrees (j % 2 ^ m)).toNat u else 0) = D
  have eV : ∀ u : Nat, zeV cha m who (g + 1) u = ztot (D u) (4 ^ m) := fun u => by rw [zeV_step m5 hw, ← hD2]
  have KEb : ∀ t u : Nat, t < 3 ^ m → 0 ≤ zeKE (zeR cha m g) (cha g) m who t u ∧ zeKE (zeR cha m g) (cha g) m who t u ≤ 100 ^ 65 * 32 := fun t u ht => by
    unfold zeKE
    split
    · have eb := ztot_bd (c := fun go => zeK (zeR cha m g) (cha g) m who t go u) (B := 100 ^ 65) (2 ^ m) (fun go _ => by
        unfold zeK
        have := zeT_bd2 (u := u) (go := (go : Int)) m5 hg ht cb
        split
        · omega
        · exact this)
      have := Int.mul_le_mul_of_nonneg_left (show ((2 ^ m : Nat) : Int) ≤ 32 by omega) (Int.le_of_lt H0)
      omega
    · omega
  have p2 : 0 < 2 ^ m := Nat.pow_pos (by decide)
  have p4 : 4 ^ m = 2 ^ m * 2 ^ m := by rw [show (4 : Nat) = 2 * 2 from rfl, Nat.mul_pow]
  have ix : ∀ s go : Nat, go < 2 ^ m → (s * 2 ^ m + go) / 2 ^ m = s ∧ (s * 2 ^ m + go) % 2 ^ m = go := fun s go hgo => by
    rw [Nat.add_comm, Nat.add_mul_div_right _ _ p2, Nat.add_mul_mod_self_right, Nat.div_eq_of_lt hgo, Nat.mod_eq_of_lt hgo]
    exact ⟨by omega, rfl⟩
  have Db : ∀ u j : Nat, j < 4 ^ m → 0 ≤ D u j ∧ D u j ≤ 100 ^ 65 * 32 := fun u j hj => by
    rw [← hD2]
    dsimp only
    split
    · rename_i z
      have hj1 : j / 2 ^ m < 2 ^ m := Nat.div_lt_of_lt_mul (by rw [← p4]; exact hj)
      have hj2 : j % 2 ^ m < 2 ^ m := Nat.mod_lt _ p2
      exact KEb _ u (zeIdx0 m5 hj1 hj2 z).2.1
    · omega
  have m1024 : 4 ^ m ≤ 1024 := by
    have := Nat.pow_le_pow_right (n := 4) (by decide) m5
    exact this
  refine c_Reckoner_stepBeside (a0 := 105) (a1 := a1) (a2 := a2) (d1 := 3) ht1 ht2 (by omega) ?_
  refine k_clearStates (o := o2) (a := a2) (tt := t2) (by omega) (by omega) hT (fun ν1 c1 c2 => ?_)
  have e3 : ν1 105 3 = m := by rw [c1 105 (by omega)]; exact h3
  rw [e3]
  have em : (if (m : Int) < 5 then (m : Int) else 5) = (m : Nat) := by split <;> omega
  rw [em, zshl_pow m (by omega)]
  -- the two loops
  have both : ∀ (K s : Nat), s + K = 2 ^ m → ∀ ν : zM, (∀ b : Int, ¬ (119 ≤ b ∧ b ≤ 120) → ¬ (123 ≤ b ∧ b ≤ 125) → ¬ (a2 + o2 ≤ b ∧ b < a2 + o2 + 972 ∧ (b - (a2 + o2)) % 4 ≤ 1) → ν b = μ b) → zBig ν 124 15 → (∀ u : Nat, u < 243 → zBv ν (a2 + o2 + 4 * u) 15 (ztot (D u) (s * 2 ^ m))) → zE X true l d 0 0 y_Reckoner_stepBeside 18 [some (6, 0, 105), some ((t1 + 2), 243, a1), some ((t2 + 2), 243, a2), some (0, 0, ((2 ^ m : Nat) : Int)), some (0, 0, (s : Int)), none, none] [] ν (zrn Q) := by
    intro K
    induction K with
    | zero =>
      intro s hs ν q1 q2 q3
      have e : s = 2 ^ m := by omega
      rw [e, ← p4] at q3
      have e105 : ν 105 = μ 105 := q1 105 (by omega) (by omega) (by omega)
      refine s_Reckoner_stepBeside_18 (a0 := 105) (a1 := a1) (a2 := a2) ht1 ht2 ⟨fun _ => ⟨by split <;> omega, ?_⟩, fun c => absurd (by omega) c⟩
      rw [zup_miss (show ¬ ((105 : Int) = 105 ∧ (2 : Int) = 6) by omega), e105, h2, zw_of (by omega) (by omega)]
      have k1 : ∀ b : Int, b ≠ 105 → zup (zup ν 105 6 (if ¬ μ 105 6 = 0 then (0 : Int) else 1)) 105 2 ((g : Int) + 1) b = ν b := fun b hb => by rw [zup_ne hb, zup_ne hb]
      refine hQ _ (fun b b0 b1 b2 b3 => by rw [k1 b b0]; exact q1 b b1 b2 b3) (fun j j0 j1 => by rw [zup_miss (by omega), zup_miss (by omega), e105]) (by rw [zup_hit]; omega) (by rw [zup_miss (by omega), zup_hit]) (q2.keep (k1 _ (by omega)) (k1 _ (by omega))) (fun u hu => ?_)
      rw [eV]
      exact (q3 u hu).keep (k1 _ (by omega)) (k1 _ (by omega))
    | succ K ihK =>
      intro s hs ν q1 q2 q3
      have s32 : s < 2 ^ m := by omega
      have inner : ∀ (j go : Nat), go + j = 2 ^ m → ∀ ν : zM, (∀ b : Int, ¬ (119 ≤ b ∧ b ≤ 120) → ¬ (123 ≤ b ∧ b ≤ 125) → ¬ (a2 + o2 ≤ b ∧ b < a2 + o2 + 972 ∧ (b - (a2 + o2)) % 4 ≤ 1) → ν b = μ b) → zBig ν 124 15 → (∀ u : Nat, u < 243 → zBv ν (a2 + o2 + 4 * u) 15 (ztot (D u) (s * 2 ^ m + go))) → zE X true l d 0 0 y_Reckoner_stepBeside 27 [some (6, 0, 105), some ((t1 + 2), 243, a1), some ((t2 + 2), 243, a2), some (0, 0, ((2 ^ m : Nat) : Int)), some (0, 0, (s : Int)), some (0, 0, (go : Int)), none] [] ν (zrn Q) := by
        intro j
        induction j with
        | zero =>
          intro go hgo ν q1 q2 q3
          have e : go = 2 ^ m := by omega
          refine s_Reckoner_stepBeside_27 (a0 := 105) (a1 := a1) (a2 := a2) (d1 := 3) ht1 ht2 (by omega) ⟨fun _ => ?_, fun c => absurd (by omega) c⟩
          rw [zw_of (by omega) (by omega)]
          refine ihK (s + 1) (by omega) ν q1 q2 (fun u hu => ?_)
          rw [Nat.add_mul, Nat.one_mul]
          rw [e] at q3
          exact q3 u hu
        | succ j ihj =>
          intro go hgo ν q1 q2 q3
          have g32 : go < 2 ^ m := by omega
          have ij := ix s go g32
          have Ds : ∀ u : Nat, D u (s * 2 ^ m + go) = if zand (s : Nat) (go : Nat) = 0 then zeKE (zeR cha m g) (cha g) m who (zthrees s + 2 * zthrees go).toNat u else 0 := fun u => by
            rw [← hD2]
            dsimp only
            rw [ij.1, ij.2]
          have nx : ∀ ν5 : zM, (∀ b : Int, ¬ (119 ≤ b ∧ b ≤ 120) → ¬ (123 ≤ b ∧ b ≤ 125) → ¬ (a2 + o2 ≤ b ∧ b < a2 + o2 + 972 ∧ (b - (a2 + o2)) % 4 ≤ 1) → ν5 b = μ b) → zBig ν5 124 15 → (∀ u : Nat, u < 243 → zBv ν5 (a2 + o2 + 4 * u) 15 (ztot (D u) (s * 2 ^ m + go) + D u (s * 2 ^ m + go))) → zE X true l d 0 0 y_Reckoner_stepBeside 27 [some (6, 0, 105), some ((t1 + 2), 243, a1), some ((t2 + 2), 243, a2), some (0, 0, ((2 ^ m : Nat) : Int)), some (0, 0, (s : Int)), some (0, 0, zw ((go : Int) + 1)), none] [] ν5 (zrn Q) := fun ν5 r1 r2 r3 => by
            rw [zw_of (by omega) (by omega)]
            exact ihj (go + 1) (by omega) ν5 r1 r2 (fun u hu => by rw [show s * 2 ^ m + (go + 1) = s * 2 ^ m + go + 1 by omega, ztot_s]; exact r3 u hu)
          have same : (∀ u : Nat, D u (s * 2 ^ m + go) = 0) → zE X true l d 0 0 y_Reckoner_stepBeside 27 [some (6, 0, 105), some ((t1 + 2), 243, a1), some ((t2 + 2), 243, a2), some (0, 0, ((2 ^ m : Nat) : Int)), some (0, 0, (s : Int)), some (0, 0, zw ((go : Int) + 1)), none] [] ν (zrn Q) := fun z => nx ν q1 q2 (fun u hu => by rw [z u, Int.add_zero]; exact q3 u hu)
          refine s_Reckoner_stepBeside_27 (a0 := 105) (a1 := a1) (a2 := a2) (o1 := o1) (d1 := 3) ht1 ht2 (by omega) ⟨fun c => absurd c (by omega), fun _ => ⟨by omega, by omega, fun c => same (fun u => by rw [Ds u, if_neg c]), fun c => ?_⟩⟩
          have I := zeIdx0 m5 s32 g32 c
          obtain ⟨t, ht⟩ : ∃ t : Nat, (zthrees s + 2 * zthrees go).toNat = t := ⟨_, rfl⟩
          have rng : ∀ k : Nat, k < 32 → 0 ≤ zthrees k ∧ zthrees k ≤ 121 := by decide
          have ra := rng s (by omega)
          have rb := rng go (by omega)
          have et : zw (zthrees (s : Int).toNat + zw (2 * zthrees (go : Int).toNat)) = (t : Int) := by
            rw [Int.toNat_natCast, Int.toNat_natCast, zw_of (x := 2 * zthrees go) (by omega) (by omega), zw_of (by omega) (by omega)]
            omega
          rw [ht] at I
          rw [et]
          have t3 : t < 243 := by omega
          have fv := (hF t t3).keep (q1 (a1 + o1 + 4 * (t : Int)) (by omega) (by omega) (by omega)) (q1 (a1 + o1 + 4 * (t : Int) + 1) (by omega) (by omega) (by omega))
          have Dt : ∀ u : Nat, D u (s * 2 ^ m + go) = zeKE (zeR cha m g) (cha g) m who t u := fun u => by rw [Ds u, if_pos c, ht]
          refine ⟨fun q => absurd q (by omega), fun _ => ⟨by omega, fun z => ?_, fun z => ⟨by omega, ?_⟩⟩⟩
          · have v0 : zeV cha m who g t = 0 := fv.zero.1 z
            refine same (fun u => ?_)
            rw [Dt u]
            unfold zeKE
            split
            · rename_i f0
              have r0 : zeR cha m g t = 0 := by
                unfold zeV at v0
                rw [if_pos f0] at v0
                exact v0
              refine ztot_zero _ (fun i _ => ?_)
              unfold zeK zeT
              rw [r0, Int.zero_mul, ite_self, ite_self]
            · rfl
          · have f0 : zeF t who = 0 := Decidable.byContradiction fun q => z (fv.zero.2 (by unfold zeV; rw [if_neg q]))
            have ev : zeV cha m who g t = zeR cha m g t := by unfold zeV; rw [if_pos f0]
            rw [ev] at fv
            have hr : zeR cha m g t * 100 ^ m ≤ 100 ^ 65 := by
              have a := zeR_bd m5 cb (g := g) (t := t) I.2.1
              have p0 : (0 : Int) ≤ 100 ^ m := Int.le_of_lt (Int.pow_pos (by decide))
              have b := Int.mul_le_mul_of_nonneg_right a p0
              rw [← Int.pow_add] at b
              have hle : m * g + m ≤ 65 := by
                have := Nat.mul_le_mul m5 (show g + 1 ≤ 13 by omega)
                rw [Nat.mul_add] at this
                omega
              have := zhm_mono hle
              omega
            have e1 : ν 105 1 = who := by rw [q1 105 (by omega) (by omega) (by omega)]; exact h1
            have e2 : ν 105 2 = g := by rw [q1 105 (by omega) (by omega) (by omega)]; exact h2
            have e3 : ν 105 3 = m := by rw [q1 105 (by omega) (by omega) (by omega)]; exact h3
            have e106 : ν 106 = μ 106 := q1 106 (by omega) (by omega) (by omega)
            rw [← I.2.2.1, ← I.2.2.2]
            refine k_R_spread (tt := t2) (o := o2) (a := a2) (m := m) (t := t) (who := who) (g := g) (δ := δ) (law := law) (r := zeR cha m g t) (A := fun u => ztot (D u) (s * 2 ^ m + go)) (by omega) (by omega) (hC.keep (fun b b0 b1 => q1 b (by omega) (by omega) (by omega))) hD (hL.keep (fun b hb => q1 b (by omega) (by omega) (by omega))) m5 hw hg e1 e2 e3 I.2.1 f0 fv (by omega) hr q2 q3 (fun u hu => ?_) (fun ν5 r1 r2 r3 => ?_)
            · have lim : s * 2 ^ m + go ≤ 4 ^ m := by
                rw [p4]
                have := Nat.mul_le_mul_right (2 ^ m) (show s + 1 ≤ 2 ^ m by omega)
                rw [Nat.add_mul, Nat.one_mul] at this
                omega
              have tb := ztot_bd (c := D u) (B := 100 ^ 65 * 32) (s * 2 ^ m + go) (fun i hi => Db u i (by omega))
              have := Int.mul_le_mul_of_nonneg_left (show ((s * 2 ^ m + go : Nat) : Int) ≤ 1024 by omega) (show (0 : Int) ≤ 100 ^ 65 * 32 by omega)
              omega
            · rw [e106, hcha'] at r3
              rw [I.2.2.1, I.2.2.2]
              refine nx ν5 (fun b b0 b1 b2 => (r1 b b0 b1 b2).trans (q1 b b0 b1 b2)) r2 (fun u hu => ?_)
              have := r3 u hu
              rw [Dt u]
              unfold zeKE
              rw [if_pos f0]
              exact this
      exact s_Reckoner_stepBeside_18 (a0 := 105) (a1 := a1) (a2 := a2) ht1 ht2 ⟨fun c => absurd c (by omega), fun _ => inner (2 ^ m) 0 (by omega) ν q1 q2 (fun u hu => by rw [Nat.add_zero]; exact q3 u hu)⟩
  exact both (2 ^ m) 0 (by omega) ν1 (fun b b0 b1 b2 => c1 b b2) (hS.keep (c1 _ (by omega)) (c1 _ (by omega))) (fun u hu => by rw [Nat.zero_mul]; exact c2 u hu)
end

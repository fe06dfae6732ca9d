section
variable {X : zX} {l : Launch} {d : Nat} {μ : zM}
/-- what the reference's spread leaves as it is -/
def zFr (μ ν : zM) : Prop := (∀ b : Int, b ≠ 1320 → b ≠ 1331 → b ≠ 1332 → b ≠ 1335 → b ≠ 1337 → b ≠ 1338 → ν b = μ b) ∧ ∀ j : Int, j ≠ 24 → j ≠ 27 → j ≠ 28 → j ≠ 29 → ν 1320 j = μ 1320 j
theorem zFr.refl : zFr μ μ := ⟨fun _ _ _ _ _ _ _ => rfl, fun _ _ _ _ _ => rfl⟩
theorem zFr.trans {μ ν ρ : zM} (h : zFr μ ν) (k : zFr ν ρ) : zFr μ ρ := ⟨fun b h1 h2 h3 h4 h5 h6 => (k.1 b h1 h2 h3 h4 h5 h6).trans (h.1 b h1 h2 h3 h4 h5 h6), fun j h1 h2 h3 h4 => (k.2 j h1 h2 h3 h4).trans (h.2 j h1 h2 h3 h4)⟩
theorem zFr.one {μ ν : zM} {c : Int} (h : ∀ b : Int, b ≠ c → ν b = μ b) (hc : c = 1335 ∨ c = 1337 ∨ c = 1338) : zFr μ ν := ⟨fun b h1 h2 h3 h4 h5 h6 => h b (by omega), fun j _ _ _ _ => by rw [h 1320 (by omega)]⟩
theorem zML.keep {μ ν : zM} {law : Option zLaw} (h : zML μ law) (h1 : ν 1320 32 = μ 1320 32) (h2 : ν 1322 = μ 1322) : zML ν law := h.far h1 (fun j _ => by rw [h2])
theorem k_M_spread {t m g : Nat} {P r : Int} {law : Option zLaw} {A : Nat → Int} {Q : zM → Prop} (hd : 4 ≤ d) (hR : zRB (μ 1322)) (hP : μ 1320 30 = P) (P0 : 0 ≤ P) (P1 : P < 6) (hm : μ 1320 31 = m) (m5 : m ≤ 5) (hb : μ 1320 34 = 0) (hL : zML μ law) (ht : t < 3 ^ m) (hg : g < 12) (hn : zAr μ 1336 t r) (r0 : 0 ≤ r) (r1 : r * 100 ^ m ≤ 100 ^ 60) (hA : ∀ u : Nat, u < 3 ^ m → zAr μ 1337 u (A u)) (hA2 : ∀ u : Nat, u < 3 ^ m → A u ≤ 100 ^ 60 * 10000)
    (hQ : ∀ ν, zFr μ ν → (∀ u : Nat, u < 3 ^ m → zAr ν 1337 u (A u + zeE (fun _ => r) (fun p s go => zcha (zMd (μ 1322) P m 0 0) law (μ 1320 33) p g s go) m t u)) → Q ν) : zCv X true l d 0 0 y_M_spread [(13, 0, 1320), (0, 0, (t : Int)), (0, 0, (g : Int))] μ Q := by
  have t243 : t < 243 := Nat.lt_of_lt_of_le ht (zpow3 m5)
  have two32 := zpow2 m5
  have big : (100 : Int) ^ 60 * 10032 < zpw 16 := by
    have := z120 (n := 60) (by omega)
    have e : zpw 16 = 1000000000 * zpw 15 := zpw_succ 15
    omega
  generalize hcha : (fun (p : Nat) (s go : Int) => zcha (zMd (μ 1322) P m 0 0) law (μ 1320 33) p g s go) = cha at *
  have hcha' : ∀ (p : Nat) (s go : Int), zcha (zMd (μ 1322) P m 0 0) law (μ 1320 33) p g s go = cha p s go := fun p s go => by rw [← hcha]
  have cb : ∀ (p : Nat) (s go : Int), 0 ≤ cha p s go ∧ cha p s go ≤ 100 := fun p s go => by rw [← hcha']; exact zcha_bd
  have fr : ∀ ν : zM, zFr μ ν → ν 1322 = μ 1322 ∧ ν 1320 30 = P ∧ ν 1320 31 = m ∧ ν 1320 34 = 0 ∧ ν 1320 33 = μ 1320 33 ∧ zML ν law ∧ ν 1336 = μ 1336 := fun ν q => by
    have e22 := q.1 1322 (by decide) (by decide) (by decide) (by decide) (by decide) (by decide)
    exact ⟨e22, by rw [q.2 30 (by decide) (by decide) (by decide) (by decide)]; exact hP, by rw [q.2 31 (by decide) (by decide) (by decide) (by decide)]; exact hm, by rw [q.2 34 (by decide) (by decide) (by decide) (by decide)]; exact hb, q.2 33 (by decide) (by decide) (by decide) (by decide), hL.keep (q.2 32 (by decide) (by decide) (by decide) (by decide)) e22, q.1 1336 (by decide) (by decide) (by decide) (by decide) (by decide) (by decide)⟩
  have S0 := zeS_b (k := 0) (t := t) m5
  -- the ways to go
  have l143 : ∀ (k go : Nat), go + k = 2 ^ m → ∀ ν : zM, zFr μ ν → (∀ p : Nat, p < m → ν 1338 p = if zeF t p = 0 then cha p (zeS 1 m t) (zeS 2 m t) else 100) → (∀ u : Nat, u < 3 ^ m → zAr ν 1337 u (A u + ztot (fun go => zeT (fun _ => r) cha m t go u) go)) → zE X true l d 0 0 y_M_spread 143 [some (13, 0, 1320), some (0, 0, (t : Int)), none, none, none, some (0, 0, zeS 0 m t), some (0, 0, (go : Int)), none, none, none, none] [] ν (zrn Q) := by
    intro k
    induction k with
    | zero =>
      intro go hgo ν q1 q2 q3
      obtain ⟨e22, e30, e31, e34, e33, eL, e36⟩ := fr ν q1
      refine s_M_spread_143 (a0 := 1320) ⟨fun _ => ?_, fun c => absurd ?_ c⟩
      · have e : go = 2 ^ m := by omega
        rw [e] at q3
        exact hQ ν q1 q3
      · rw [e31, zshl_pow m (by omega)]
        omega
    | succ k ih =>
      intro go hgo ν q1 q2 q3
      obtain ⟨e22, e30, e31, e34, e33, eL, e36⟩ := fr ν q1
      have go32 : go < 32 := by omega
      have go2 : go < 2 ^ m := by omega
      refine s_M_spread_143 (a0 := 1320) ⟨fun c => ?_, fun _ => ⟨fun c => ?_, fun c => ?_⟩⟩
      · rw [e31, zshl_pow m (by omega)] at c
        omega
      · -- not among those who sit
        have hex : ∃ p : Nat, p < m ∧ zand (zshr (go : Nat) (p : Nat)) 1 = 1 ∧ ¬ zeF t p = 0 := by
          refine Classical.byContradiction fun no => c ((zeSub go32 S0.1).mpr (fun p hp hbit => (S0.2 p hp).mpr ?_))
          have pm : p < m := by
            refine Decidable.byContradiction fun q => ?_
            exact zeb_top m (by omega) go go2 p hp (by omega) hbit
          refine ⟨pm, ?_⟩
          refine Decidable.byContradiction fun q => ?_
          exact no ⟨p, pm, hbit, q⟩
        obtain ⟨p, pm, hbit, pz⟩ := hex
        have z : zeP (zeW (fun p => cha p (zeS 1 m t) (zeS 2 m t)) t go) m = 0 := zeP_zero (p := p) (by unfold zeW; rw [if_pos hbit, if_neg pz]) m pm
        rw [zw_of (by omega) (by omega)]
        refine ih (go + 1) (by omega) ν q1 q2 (fun u hu => ?_)
        have e0 : zeT (fun _ => r) cha m t go u = 0 := by
          unfold zeT
          split
          · rw [z, Int.mul_zero]
          · rfl
        rw [ztot_s, e0, Int.add_zero]
        exact q3 u hu
      · have sub := (zeSub go32 S0.1).mp c
        have fz : ∀ p : Nat, p < m → zand (zshr (go : Nat) (p : Nat)) 1 = 1 → zeF t p = 0 := fun p pm hbit => ((S0.2 p (by omega)).mp (sub p (by omega) hbit)).2
        have Wb : ∀ p : Nat, 0 ≤ zeW (fun p => cha p (zeS 1 m t) (zeS 2 m t)) t go p ∧ zeW (fun p => cha p (zeS 1 m t) (zeS 2 m t)) t go p ≤ 100 := fun p => zeW_bd (fun p => cb p _ _)
        generalize hW : zeW (fun p => cha p (zeS 1 m t) (zeS 2 m t)) t go = W at *
        have Tb : 0 ≤ r * zeP W m ∧ r * zeP W m ≤ 100 ^ 60 := by
          have a := zeP_bd (f := W) m (fun p _ => Wb p)
          have := zmulb r0 (Int.le_refl r) a.1 a.2
          omega
        -- the tail of the product
        have Qb : ∀ n j : Nat, 0 ≤ zeQ W j n ∧ zeQ W j n ≤ 100 ^ n := by
          intro n
          induction n with
          | zero => intro j; unfold zeQ; decide
          | succ n ihn =>
            intro j
            have a := ihn (j + 1)
            have b := Wb j
            have c := zmulb a.1 a.2 b.1 b.2
            rw [Int.pow_succ]
            exact c
        have Rb : ∀ j n : Nat, n ≤ m → r * zeQ W j n < zpw 16 := fun j n hnm => by
          have a := Qb n j
          have c := zmulb r0 (Int.le_refl r) a.1 a.2
          have e := Int.mul_le_mul_of_nonneg_left (zhm_mono hnm) r0
          omega
        have l210 : ∀ (j : Nat), j ≤ m → ∀ ν2 : zM, zFr μ ν2 → (∀ p : Nat, p < m → ν2 1338 p = if zeF t p = 0 then cha p (zeS 1 m t) (zeS 2 m t) else 100) → (∀ u : Nat, u < 3 ^ m → zAr ν2 1337 u (A u + ztot (fun go => zeT (fun _ => r) cha m t go u) go)) → zRn ν2 1335 16 (r * zeQ W j (m - j)) → zE X true l d 0 0 y_M_spread 210 [some (13, 0, 1320), some (0, 0, (t : Int)), none, none, none, some (0, 0, zeS 0 m t), some (0, 0, (go : Int)), some (0, 0, (zeH (zeD t go) j (m - j) : Nat)), some (0, 0, (j : Int) - 1), none, none] [] ν2 (zrn Q) := by
          intro j
          induction j with
          | zero =>
            intro _ ν2 p1 p2 p3 p4
            rw [Nat.sub_zero] at p4 ⊢
            have eP : zeQ W 0 m = zeP W m := by
              have := zeP_split (f := W) m 0
              rw [Nat.zero_add, show zeP W 0 = 1 from rfl, Int.one_mul] at this
              exact this.symm
            rw [eP] at p4
            have G1 : zeH (zeD t go) 0 m < 3 ^ m := zeG_lt
            have G2 : zeH (zeD t go) 0 m < 243 := Nat.lt_of_lt_of_le G1 (zpow3 m5)
            refine s_M_spread_210 (a0 := 1320) (d1 := 3) (by omega) ⟨fun _ => ?_, fun q => absurd (by decide) q⟩
            have sb := ztot_bd (c := fun i => zeT (fun _ => r) cha m t i (zeH (zeD t go) 0 m)) (B := 100 ^ 60) go (fun i hi => ?_)
            · have a2 := hA2 _ G1
              have sb2 := Int.mul_le_mul_of_nonneg_left (show (go : Int) ≤ 31 by omega) (show (0 : Int) ≤ 100 ^ 60 by omega)
              refine k_addThen (u := zeH (zeD t go) 0 m) G2 (p3 _ G1) p4 (by omega) (fun ν3 s1 s2 s3 => ?_)
              rw [zw_of (by omega) (by omega)]
              refine ih (go + 1) (by omega) ν3 (p1.trans (zFr.one s1 (by omega))) (fun p hp => by rw [s1 1338 (by decide)]; exact p2 p hp) (fun u hu => ?_)
              rw [ztot_s]
              by_cases e : zeH (zeD t go) 0 m = u
              · have eT : zeT (fun _ => r) cha m t go u = r * zeP W m := by
                  unfold zeT
                  rw [if_pos (show zeG m t go = u from e), hW]
                rw [eT, ← Int.add_assoc, ← e]
                exact s3
              · have eT : zeT (fun _ => r) cha m t go u = 0 := by
                  unfold zeT
                  exact if_neg e
                rw [eT, Int.add_zero]
                exact (p3 u hu).keep (fun k k0 k1 => s2 _ (by omega))
            · unfold zeT
              have a := zeP_bd (f := zeW (fun p => cha p (zeS 1 m t) (zeS 2 m t)) t i) m (fun p _ => zeW_bd (fun p => cb p _ _))
              have := zmulb r0 (Int.le_refl r) a.1 a.2
              dsimp only
              split <;> omega
          | succ j ihj =>
            intro hj ν2 p1 p2 p3 p4
            have jm : j < m := by omega
            have e31' := (fr ν2 p1).2.2.1
            have bS := S0.2 j (by omega)
            have w5 := p2 j jm
            obtain ⟨n, hn'⟩ : ∃ n : Nat, m - j = n + 1 := ⟨m - j - 1, by omega⟩
            have hn2 : m - (j + 1) = n := by omega
            rw [hn2] at p4 ⊢
            have stepQ : zeQ W j (n + 1) = zeQ W (j + 1) n * W j := rfl
            have stepH : zeH (zeD t go) j (n + 1) = 3 * zeH (zeD t go) (j + 1) n + zeD t go j := rfl
            have Hb : zeH (zeD t go) (j + 1) n < 3 ^ n := zeH_lt (fun _ => zeD_lt) n (j + 1)
            have H3 : 3 ^ n ≤ 243 := zpow3 (by omega)
            have wj := Wb j
            have rb := Rb j (n + 1) (by omega)
            rw [stepQ] at rb
            have goal : ∀ x9 x10 w : Int, w = W j → (x9 = 0 ↔ ¬ zeF t j = 0) → ((x10 = 0 ↔ ¬ zand (zshr (go : Nat) (j : Nat)) 1 = 1) ∧ (x10 = 0 ∨ x10 = 1)) → zE X true l d 0 0 y_M_spread 290 [some (13, 0, 1320), some (0, 0, (t : Int)), none, none, none, some (0, 0, zeS 0 m t), some (0, 0, (go : Int)), some (0, 0, (zeH (zeD t go) (j + 1) n : Nat)), some (0, 0, (j : Int)), some (0, 0, x9), some (0, 0, x10)] [(1, 0, w), (0, 0, 16), (15, 16, 1335)] ν2 (zrn Q) := by
              intro x9 x10 w hw h9 h10
              refine s_M_spread_290 (a0 := 1320) (d1 := 3) (by omega) (k_M_times (c := 1335) (n := 16) (by omega) (by omega) p4 (by omega) (by omega) (by rw [hw, Int.mul_assoc]; exact rb) (fun ν3 s1 s2 => ?_))
              rw [hw, Int.mul_assoc, ← stepQ, ← hn'] at s2
              have go3 := ihj (by omega) ν3 (p1.trans (zFr.one s1 (by omega))) (fun p hp => by rw [s1 1338 (by decide)]; exact p2 p hp) (fun u hu => (p3 u hu).keep (fun k _ _ => by rw [s1 1337 (by decide)])) s2
              rw [hn', stepH] at go3
              rw [zw_of (x := 3 * ((zeH (zeD t go) (j + 1) n : Nat) : Int)) (by omega) (by omega), zw_of (x := (j : Int) + -1) (by omega) (by omega), show (j : Int) + -1 = (j : Int) - 1 by omega]
              refine ⟨fun z => ?_, fun z => ?_⟩
              · have f0 : zeF t j = 0 := Decidable.byContradiction fun q => z (h9.mpr q)
                have eD : ((3 * zeH (zeD t go) (j + 1) n + zeD t go j : Nat) : Int) = 3 * ((zeH (zeD t go) (j + 1) n : Nat) : Int) + (if x10 = 0 then 0 else 1) := by
                  unfold zeD
                  rw [if_pos f0]
                  by_cases q : x10 = 0
                  · rw [if_neg (h10.1.mp q), if_pos q]; omega
                  · rw [if_pos (Decidable.byContradiction fun z => q (h10.1.mpr z)), if_neg q]; omega
                rw [eD] at go3
                rw [zw_of (by split <;> omega) (by split <;> omega)]
                exact go3
              · have f0 : ¬ zeF t j = 0 := h9.mp z
                have eD : ((3 * zeH (zeD t go) (j + 1) n + zeD t go j : Nat) : Int) = 3 * ((zeH (zeD t go) (j + 1) n : Nat) : Int) + 2 := by
                  unfold zeD
                  rw [if_neg f0]
                  omega
                rw [eD] at go3
                rw [zw_of (by omega) (by omega)]
                exact go3
            have hWj : W j = if zand (zshr (go : Nat) (j : Nat)) 1 = 1 then (if zeF t j = 0 then cha j (zeS 1 m t) (zeS 2 m t) else 0) else (if zeF t j = 0 then 100 - cha j (zeS 1 m t) (zeS 2 m t) else 100) := by rw [← hW]; rfl
            have cbj := cb j (zeS 1 m t) (zeS 2 m t)
            rw [show ((j + 1 : Nat) : Int) - 1 = (j : Int) by omega]
            refine s_M_spread_210 (a0 := 1320) (d1 := 3) (by omega) ⟨fun q => absurd q (by omega), fun _ => ⟨fun z => ⟨by omega, ?_⟩, fun z => ⟨fun z2 => ⟨by omega, ?_⟩, fun z2 => ⟨by omega, ?_⟩⟩⟩⟩
            · have f0 : ¬ zeF t j = 0 := fun q => by
                rw [if_neg (fun w => w (bS.mpr ⟨jm, q⟩))] at z
                exact absurd z (by decide)
              have g0 : ¬ zand (zshr (go : Nat) (j : Nat)) 1 = 1 := fun q => f0 (fz j jm q)
              refine goal _ _ _ ?_ ⟨fun _ => f0, fun _ => z⟩ ⟨⟨fun _ => g0, fun _ => if_pos g0⟩, by split <;> omega⟩
              simp only [Int.reduceAdd]
              rw [w5, if_neg f0, hWj, if_neg g0, if_neg f0]
            · have f0 : zeF t j = 0 := Decidable.byContradiction fun q => z (if_pos (fun w => q (bS.mp w).2))
              have g0 : ¬ zand (zshr (go : Nat) (j : Nat)) 1 = 1 := fun q => by
                rw [if_neg (fun w => w q)] at z2
                exact absurd z2 (by decide)
              refine goal _ _ _ ?_ ⟨fun q => absurd q z, fun q => absurd f0 q⟩ ⟨⟨fun _ => g0, fun _ => z2⟩, by split <;> omega⟩
              simp only [Int.reduceAdd]
              rw [w5, if_pos f0, hWj, if_neg g0, if_pos f0, zwl_id (by omega) (by omega)]
            · have f0 : zeF t j = 0 := Decidable.byContradiction fun q => z (if_pos (fun w => q (bS.mp w).2))
              have g0 : zand (zshr (go : Nat) (j : Nat)) 1 = 1 := Decidable.byContradiction fun q => z2 (if_pos q)
              refine goal _ _ _ ?_ ⟨fun q => absurd q z, fun q => absurd f0 q⟩ ⟨⟨fun q => absurd q z2, fun q => absurd g0 q⟩, by split <;> omega⟩
              simp only [Int.reduceAdd]
              rw [w5, if_pos f0, hWj, if_pos g0, if_pos f0]
        have l167 : ∀ j i : Nat, i + j = 16 → ∀ ν2 : zM, zFr μ ν2 → (∀ p : Nat, p < m → ν2 1338 p = if zeF t p = 0 then cha p (zeS 1 m t) (zeS 2 m t) else 100) → (∀ u : Nat, u < 3 ^ m → zAr ν2 1337 u (A u + ztot (fun go => zeT (fun _ => r) cha m t go u) go)) → (∀ k : Int, 0 ≤ k → k < i → ν2 1335 k = μ 1336 (16 * (t : Int) + k)) → zE X true l d 0 0 y_M_spread 167 [some (13, 0, 1320), some (0, 0, (t : Int)), none, none, none, some (0, 0, zeS 0 m t), some (0, 0, (go : Int)), some (0, 0, (i : Int)), none, none, none] [] ν2 (zrn Q) := by
          intro j
          induction j with
          | zero =>
            intro i hi ν2 p1 p2 p3 p4
            obtain rfl : i = 16 := by omega
            have rn : zRn ν2 1335 16 (r * zeQ W m (m - m)) := by
              rw [Nat.sub_self, show zeQ W m 0 = 1 from rfl, Int.mul_one]
              refine ⟨fun k k0 k1 => by rw [p4 k k0 k1]; exact hn.1 k k0 k1, ?_⟩
              rw [← hn.2]
              exact znum_congr 16 p4
            have := l210 m (Nat.le_refl _) ν2 p1 p2 p3 rn
            rw [Nat.sub_self, show zeH (zeD t go) m 0 = 0 from rfl] at this
            refine s_M_spread_167 (a0 := 1320) ⟨fun _ => ?_, fun q => absurd (by decide) q⟩
            rw [(fr ν2 p1).2.2.1, zw_of (by omega) (by omega)]
            exact this
          | succ j ihj =>
            intro i hi ν2 p1 p2 p3 p4
            have wu : zw (zw (16 * (t : Int)) + i) = 16 * (t : Int) + i := by rw [zw_of (x := 16 * (t : Int)) (by omega) (by omega), zw_of (by omega) (by omega)]
            refine s_M_spread_167 (a0 := 1320) ⟨fun c => absurd c (by omega), fun _ => ⟨by rw [wu]; omega, by omega, ?_⟩⟩
            simp only [Int.reduceAdd]
            rw [wu, (fr ν2 p1).2.2.2.2.2.2, zw_of (by omega) (by omega)]
            refine ihj (i + 1) (by omega) _ (p1.trans (zFr.one (c := 1335) (fun b hb => zup_ne hb) (by omega))) (fun p hp => by rw [zup_ne (by decide)]; exact p2 p hp) (fun u hu => (p3 u hu).keep (fun k _ _ => by rw [zup_ne (by decide)])) (fun k k0 k1 => ?_)
            rw [zup_val]
            split
            · rename_i e; rw [e]
            · exact p4 k k0 (by omega)
        exact l167 16 0 rfl ν q1 q2 q3 (fun k k0 k1 => by omega)
  -- the chances
  have l91 : ∀ k i : Nat, i + k = m → ∀ ν : zM, zFr μ ν → ν 1337 = μ 1337 → (∀ p : Nat, p < i → ν 1338 p = if zeF t p = 0 then cha p (zeS 1 m t) (zeS 2 m t) else 100) → zE X true l d 0 0 y_M_spread 91 [some (13, 0, 1320), some (0, 0, (t : Int)), some (0, 0, (g : Int)), some (0, 0, zeS 1 m t), some (0, 0, zeS 2 m t), some (0, 0, zeS 0 m t), some (0, 0, (i : Int)), none, none, none, none] [] ν (zrn Q) := by
    intro k
    induction k with
    | zero =>
      intro i hi ν q1 q2 q3
      obtain rfl : i = m := by omega
      obtain ⟨e22, e30, e31, e34, e33, eL, e36⟩ := fr ν q1
      refine s_M_spread_91 (a0 := 1320) (d1 := 3) (by omega) ⟨fun _ => ?_, fun c => absurd (by omega) c⟩
      refine l143 (2 ^ i) 0 (by omega) ν q1 q3 (fun u hu => ?_)
      rw [show ztot (fun go => zeT (fun _ => r) cha i t go u) 0 = 0 from rfl, Int.add_zero]
      exact (hA u hu).keep (fun k _ _ => by rw [q2])
    | succ k ih =>
      intro i hi ν q1 q2 q3
      obtain ⟨e22, e30, e31, e34, e33, eL, e36⟩ := fr ν q1
      have bS := S0.2 i (by omega)
      refine s_M_spread_91 (a0 := 1320) (d1 := 3) (by omega) ⟨fun c => absurd c (by omega), fun _ => ⟨fun c => ⟨by omega, ?_⟩, fun c => ?_⟩⟩
      · simp only [Int.reduceAdd]
        rw [zw_of (by omega) (by omega)]
        refine ih (i + 1) (by omega) _ (q1.trans (zFr.one (c := 1338) (fun b hb => zup_ne hb) (by omega))) (by rw [zup_ne (by decide)]; exact q2) (fun p hp => ?_)
        rw [zup_val]
        by_cases e : p = i
        · rw [if_pos (by omega), e, if_neg (fun q => c (bS.mpr ⟨by omega, q⟩))]
        · rw [if_neg (by omega)]; exact q3 p (by omega)
      · refine k_M_chanceOf (law := law) (by omega) (by rw [e22]; exact hR) e30 P0 P1 e31 (by omega) (by omega) e34 eL (by omega) (by omega) (by omega) (by omega) (fun ν2 t1 t2 => ⟨by omega, ?_⟩)
        simp only [Int.reduceAdd]
        rw [zw_of (by omega) (by omega), e22, e33, hcha']
        have f2 : zFr ν ν2 := ⟨fun b h1 h2 h3 _ _ _ => t1 b h1 h2 h3, t2⟩
        refine ih (i + 1) (by omega) _ ((q1.trans f2).trans (zFr.one (c := 1338) (fun b hb => zup_ne hb) (by omega))) (by rw [zup_ne (by decide), t1 1337 (by decide) (by decide) (by decide)]; exact q2) (fun p hp => ?_)
        rw [zup_val]
        by_cases e : p = i
        · rw [if_pos (by omega), e, if_pos (bS.mp c).2]
        · rw [if_neg (by omega), t1 1338 (by decide) (by decide) (by decide)]; exact q3 p (by omega)
  -- the sets
  have l11 : ∀ k i : Nat, i + k = m → zE X true l d 0 0 y_M_spread 11 [some (13, 0, 1320), some (0, 0, (t : Int)), some (0, 0, (g : Int)), some (0, 0, zeS 1 i t), some (0, 0, zeS 2 i t), some (0, 0, zeS 0 i t), some (0, 0, (i : Int)), none, none, none, none] [] μ (zrn Q) := by
    intro k
    induction k with
    | zero =>
      intro i hi
      obtain rfl : i = m := by omega
      exact s_M_spread_11 (a0 := 1320) (d1 := 3) (by omega) ⟨fun _ => l91 i 0 (by omega) μ zFr.refl rfl (fun p hp => by omega), fun c => absurd (by omega) c⟩
    | succ k ih =>
      intro i hi
      refine s_M_spread_11 (a0 := 1320) (d1 := 3) (by omega) ⟨fun c => absurd c (by omega), fun _ => k_M_figure t243 (by omega) ?_⟩
      rw [zw_of (by omega) (by omega)]
      have := ih (i + 1) (by omega)
      rw [zeS_s, zeS_s, zeS_s] at this
      have e : ∀ v : Nat, (if ¬ ((zeF t i : Nat) : Int) = (v : Int) then (0 : Int) else zshl 1 i) = if zeF t i = v then zshl 1 i else 0 := fun v => by
        by_cases c : zeF t i = v
        · rw [if_neg (by omega), if_pos c]
        · rw [if_pos (by omega), if_neg c]
      have e1 := e 1
      have e2 := e 2
      have e0 := e 0
      rw [← e1, ← e2, ← e0] at this
      exact this
  exact c_M_spread (l11 m 0 (by omega))
end

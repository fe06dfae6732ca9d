/-! crowd, sooner -/
/-- the first of n, from i on, that is enough -/
def zfst (f : Nat → Int) (x : Int) : Nat → Nat → Int
  | 0, _ => -1
  | n + 1, i => if f i < x then zfst f x n (i + 1) else i
section
variable {X : zX} {l : Launch} {d : Nat} {μ : zM}
theorem k_crowd92 {A B : Int} {Q : Int → zM → Prop} (hA : zRn μ 1339 16 A) (hB : zRn μ 1333 16 B) (hQ : Q (zw ((if A < B then -1 else if A = B then 0 else 1) + 1)) μ) : zE X true l d 0 0 y_M_crowd 92 [some (13, 0, 1320), none, none, some (0, 0, 15)] [] μ (zri Q) := by
  have loop : ∀ k : Nat, k ≤ 16 → (∀ i : Int, (k : Int) ≤ i → i < 16 → μ 1339 i = μ 1333 i) → zE X true l d 0 0 y_M_crowd 92 [some (13, 0, 1320), none, none, some (0, 0, (k : Int) - 1)] [] μ (zri Q) := by
    intro k
    induction k with
    | zero =>
      intro _ hs
      refine s_M_crowd_92 (a0 := 1320) ⟨fun _ => ?_, fun c => absurd (by decide) c⟩
      have e : A = B := by rw [← hA.2, ← hB.2]; exact znum_congr 16 (fun i i0 i1 => hs i (by omega) (by omega))
      have e1 : zw ((if A < B then -1 else if A = B then 0 else 1) + 1) = 1 := by
        rw [if_neg (by omega), if_pos e]; decide
      show Q 1 μ
      rw [← e1]
      exact hQ
    | succ k ih =>
      intro hk hs
      have a := hA.1 k (by omega) (by omega)
      have b := hB.1 k (by omega) (by omega)
      rw [show ((k + 1 : Nat) : Int) - 1 = (k : Int) by omega]
      refine s_M_crowd_92 (a0 := 1320) ⟨fun c => absurd c (by omega), fun _ => ⟨by omega, by omega, fun c => ?_, fun c => ⟨by omega, by omega, ?_⟩⟩⟩
      · simp only [Int.reduceAdd] at c
        have e : μ 1339 k = μ 1333 k := by
          unfold zcmp at c
          by_cases q : μ 1333 k < μ 1339 k
          · rw [if_pos q] at c; omega
          · rw [if_neg q] at c
            by_cases q2 : μ 1339 k = μ 1333 k
            · exact q2
            · rw [if_neg q2] at c; omega
        rw [zw_of (by omega) (by omega), show (k : Int) + -1 = (k : Int) - 1 by omega]
        refine ih (by omega) (fun i i0 i1 => ?_)
        by_cases q : i = k
        · rw [q]; exact e
        · exact hs i (by omega) i1
      · simp only [Int.reduceAdd] at c ⊢
        by_cases q : μ 1333 k < μ 1339 k
        · have lt := znum_lt hB.1 hA.1 (k := k) (by omega) (fun i i0 i1 => (hs i (by omega) i1).symm) q
          rw [hA.2, hB.2] at lt
          have e1 : zw ((if A < B then -1 else if A = B then 0 else 1) + 1) = 2 := by
            rw [if_neg (by omega), if_neg (by omega)]; decide
          rw [show (if 0 ≤ zcmp (μ 1339 k) (μ 1333 k) then (2 : Int) else 0) = 2 by unfold zcmp; rw [if_pos q]; decide]
          show Q 2 μ
          rw [← e1]
          exact hQ
        · have q2 : μ 1339 k < μ 1333 k := by
            refine Decidable.byContradiction fun w => c ?_
            unfold zcmp
            rw [if_neg q, if_pos (by omega)]
          have lt := znum_lt hA.1 hB.1 (k := k) (by omega) (fun i i0 i1 => hs i (by omega) i1) q2
          rw [hA.2, hB.2] at lt
          have e1 : zw ((if A < B then -1 else if A = B then 0 else 1) + 1) = 0 := by
            rw [if_pos lt]; decide
          rw [show (if 0 ≤ zcmp (μ 1339 k) (μ 1333 k) then (2 : Int) else 0) = 0 by unfold zcmp; rw [if_neg q, if_neg (by omega)]]
          show Q 0 μ
          rw [← e1]
          exact hQ
  exact loop 16 (by omega) (fun i i0 i1 => by omega)
theorem p_crowd {Q : Int → Int → zM → Prop} {x y : Int} (h : zInv zLR μ) (hd : 7 ≤ d) (hQ : ∀ v ρ, zInv zLR ρ → Q v v ρ) : zCi X true l d 0 0 y_S_crowd [(12, 0, 0), (0, 0, x), (0, 0, y)] μ (fun v ν => zCi X true l d 0 0 y_M_crowd [(13, 0, 1320), (0, 0, x), (0, 0, y)] ν (fun w ρ => Q v w ρ)) := by
  obtain ⟨u0, u1, u2⟩ := h.use
  obtain ⟨m0, m1, m2⟩ := h.many u1 u2
  obtain ⟨g0, g1, g2⟩ := h.long
  obtain ⟨f0, f1, f2, f3⟩ := h.force
  obtain ⟨law, hl⟩ := h.law (x := μ 1322 1) (by omega)
  have hl : zLk μ (μ 1322 1) law := hl
  obtain ⟨m, hm⟩ : ∃ m : Nat, μ 1322 (10 + μ 1322 0) = m := ⟨(μ 1322 (10 + μ 1322 0)).toNat, by omega⟩
  generalize hc : (fun p g : Int => zcha (zMd (μ 1322) (μ 1322 0) m 0 1) law (-1) p g 0 0) = c
  have cb : ∀ p g : Int, 0 ≤ c p g ∧ c p g ≤ 100 := fun p g => by rw [← hc]; exact zcha_bd
  have ref : ∀ (v : Int) (ν : zM), zCm μ ν → (∀ G : Nat, y = G → (-1 ≤ x ∧ x < m) → y ≤ μ 1322 2 → v = zw ((if zev (zMd (μ 1322) (μ 1322 0) m 0 0) law (-1) x m G < 100 ^ (m * G) - zsty (zcn c x) m G then -1 else if zev (zMd (μ 1322) (μ 1322 0) m 0 0) law (-1) x m G = 100 ^ (m * G) - zsty (zcn c x) m G then 0 else 1) + 1)) → (¬ ((-1 ≤ x ∧ x < m) ∧ 0 ≤ y ∧ y ≤ μ 1322 2) → v = -1) → zCi X true l d 0 0 y_M_crowd [(13, 0, 1320), (0, 0, x), (0, 0, y)] ν (fun w ρ => Q v w ρ) := by
    intro v ν cν hv hv2
    have c2 := cν.trans (zCm.thrown (h.cm cν))
    have er := c2.row
    refine c_M_crowd (a0 := 1320) (d1 := 6) (by omega) (k_M_finds (m := m) (law := law) (by omega) (h.cm c2) (by rw [er]; exact hl.cm c2) (by rw [er]; exact hm) (fun G hG hx hy ν3 c3 e30 e31 e32 e33 e34 v3 => ⟨fun _ => ?_, fun c => absurd c (by decide)⟩) (fun c ν3 c3 => ⟨fun q => absurd rfl q, fun _ => ?_⟩))
    · rw [er] at v3 hy e30 e32
      have ev := hv G hG hx hy
      generalize zev (zMd (μ 1322) (μ 1322 0) m 0 0) law (-1) x m G = A at ev v3
      have h60 := zmn (m := m) (G := G) (by omega) (by omega)
      obtain ⟨hh, hw⟩ : ∃ hh : Nat, x = -1 ∧ hh = m ∨ ((0 ≤ x ∧ x < m) ∧ hh = 1) := by
        by_cases e : x = -1
        · exact ⟨m, Or.inl ⟨e, rfl⟩⟩
        · exact ⟨1, Or.inr ⟨by omega, rfl⟩⟩
      have two := zal_two (c := c) (G := G) cb hw
      have sb := zsty_bd (zcn_bd (who := x) cb) m G
      have lim := z120 h60
      have l16 := zpw_mono (m := 15) (n := 16) (by omega)
      have inv3 : zInv zLR ν3 := h.cm (c2.trans c3)
      have r3 : ν3 1322 = μ 1322 := (c2.trans c3).row
      -- upper is kept
      have l18 : ∀ k i : Nat, i + k = 16 → ∀ ν4 : zM, (∀ b : Int, b ≠ 1339 → ν4 b = ν3 b) → (∀ j : Int, 0 ≤ j → j < i → ν4 1339 j = ν3 1333 j) → zE X true l d 0 0 y_M_crowd 18 [some (13, 0, 1320), some (0, 0, x), some (0, 0, (G : Int)), some (0, 0, (i : Int))] [] ν4 (zri (fun w ρ => Q v w ρ)) := by
        intro k
        induction k with
        | zero =>
          intro i hi ν4 n1 n2
          obtain rfl : i = 16 := by omega
          have e1320 : ν4 1320 = ν3 1320 := n1 1320 (by decide)
          have e1322 : ν4 1322 = μ 1322 := (n1 1322 (by decide)).trans r3
          have vA : zRn ν4 1339 16 A := ⟨fun j j0 j1 => by rw [n2 j j0 j1]; exact v3.1 j j0 j1, by rw [← v3.2]; exact znum_congr 16 n2⟩
          have ml : zML ν4 law := hl.2 ν4 e1322 (by rw [e1320]; exact e32)
          refine s_M_crowd_18 (a0 := 1320) (d1 := 6) (by omega) ⟨fun _ => ?_, fun q => absurd (by decide) q⟩
          refine k_findAlone (law := law) (h := hh) (m := m) (G := G) (who := x) (by omega) (by rw [e1322]; exact h.rb) (by rw [e1320]; exact e30) u1 u2 (by rw [e1320]; exact e31) (by omega) (by rw [e1320]; exact e34) ml (by omega) (by omega) (by rw [e1322, e1320, e33, hc]; exact two.1) (fun ν6 t1 t2 t3 => ?_)
          rw [e1322, e1320, e33, hc] at t3
          have a0 := t3.bd.1
          have key := two.2
          generalize ha : 100 ^ (hh * G) - zalp c x G m = a at *
          have d31 : ν6 1320 31 = m := by rw [t2 31 (by decide) (by decide) (by decide) (by decide), e1320]; exact e31
          have K : zw ((if ¬ x = -1 then zw ((m : Int) - 1) else 0) * (G : Int)) = (((m - hh) * G : Nat) : Int) := by
            rcases hw with ⟨w1, w2⟩ | ⟨w1, w2⟩
            · rw [if_neg (by omega), w2, Nat.sub_self, Nat.zero_mul, Int.zero_mul]
              decide
            · rw [if_pos (by omega), w2, zw_of (x := (m : Int) - 1) (by omega) (by omega), show (m : Int) - 1 = ((m - 1 : Nat) : Int) by omega, ← Int.natCast_mul]
              have := Nat.mul_le_mul_right G (show m - 1 ≤ m by omega)
              rw [zw_of (by omega) (by omega)]
          have hK : (m - hh) * G ≤ 60 := Nat.le_trans (Nat.mul_le_mul_right G (show m - hh ≤ m by omega)) h60
          have l50 : ∀ j i : Nat, i + j = (m - hh) * G → ∀ ν7 : zM, (∀ b : Int, b ≠ 1333 → ν7 b = ν6 b) → zRn ν7 1333 16 (a * 100 ^ i) → zE X true l d 0 0 y_M_crowd 50 [some (13, 0, 1320), some (0, 0, x), some (0, 0, (G : Int)), some (0, 0, (i : Int))] [] ν7 (zri (fun w ρ => Q v w ρ)) := by
            intro j
            induction j with
            | zero =>
              intro i hi ν7 p1 p2
              have e : i = (m - hh) * G := by omega
              rw [e, ← key] at p2
              refine s_M_crowd_50 (a0 := 1320) (d1 := 6) (by omega) ⟨fun _ => ?_, fun q => absurd (by rw [p1 1320 (by decide), d31, K]; omega) q⟩
              have vA7 : zRn ν7 1339 16 A := vA.keep (by rw [p1 1339 (by decide), t1 1339 (by decide) (by decide)])
              refine k_crowd92 vA7 p2 ?_
              rw [← ev]
              refine hQ _ _ (inv3.cm (zCm.of inv3.2.2.2.2.2.2.2.2 (fun b b0 b1 => by rw [p1 b (by omega), t1 b b0 (by omega), n1 b (by omega)]) (fun j hj => by rw [p1 1320 (by decide), t2 j (by omega) (by omega) (by omega) (by omega), n1 1320 (by decide)])))
            | succ j ihj =>
              intro i hi ν7 p1 p2
              refine s_M_crowd_50 (a0 := 1320) (d1 := 6) (by omega) ⟨fun q => absurd q (by rw [p1 1320 (by decide), d31, K]; omega), fun _ => ?_⟩
              have le : a * 100 ^ i * 100 < zpw 16 := by
                have q := Int.mul_le_mul_of_nonneg_left (zhm_mono (m := i + 1) (n := (m - hh) * G) (by omega)) a0
                rw [← key, Int.pow_succ, ← Int.mul_assoc] at q
                omega
              simp only [Int.reduceAdd]
              refine k_M_times (c := 1333) (n := 16) (by omega) (by omega) p2 (by decide) (by decide) le (fun ν8 s1 s2 => ?_)
              rw [Int.mul_assoc, ← Int.pow_succ] at s2
              rw [zw_of (by omega) (by omega)]
              exact ihj (i + 1) (by omega) ν8 (fun b hb => (s1 b hb).trans (p1 b hb)) s2
          exact l50 ((m - hh) * G) 0 (by omega) ν6 (fun _ _ => rfl) (by rw [Int.pow_zero, Int.mul_one]; exact t3)
        | succ k ih =>
          intro i hi ν4 n1 n2
          refine s_M_crowd_18 (a0 := 1320) (d1 := 6) (by omega) ⟨fun q => absurd q (by omega), fun _ => ⟨by omega, by omega, ?_⟩⟩
          simp only [Int.reduceAdd]
          rw [zw_of (by omega) (by omega), n1 1333 (by decide)]
          refine ih (i + 1) (by omega) _ (fun b hb => (zup_ne hb).trans (n1 b hb)) (fun j j0 j1 => ?_)
          rw [zup_val]
          split
          · rename_i e; rw [e]
          · exact n2 j j0 (by omega)
      rw [hG]
      exact l18 16 0 rfl ν3 (fun _ _ => rfl) (fun j j0 j1 => by omega)
    · rw [er] at c
      rw [hv2 c]
      exact hQ _ _ (h.cm (c2.trans c3))
  refine c_S_crowd (a0 := 0) (d1 := 6) (by omega) (k_S_canReckon (by omega) h (fun x0 x1 y0 y1 => ⟨fun _ => ?_, fun c => absurd c (by decide)⟩) (fun c => ⟨fun q => absurd rfl q, fun _ => ref _ _ (zCm.refl h) (fun G a b e => absurd ⟨⟨b.1, by rw [hm]; exact b.2⟩, by omega, e⟩ c) (fun _ => rfl)⟩))
  rw [hm] at x1
  obtain ⟨G, hG⟩ : ∃ G : Nat, y = G := ⟨y.toNat, by omega⟩
  subst hG
  simp only [Int.reduceAdd]
  refine k_C_reckon (m := m) (G := G) (law := law) (by omega) h hl hm ⟨x0, x1⟩ y1 (fun ν7 c7 e2 e3 v7 ⟨k1, k2, k3, k4⟩ => ?_)
  have B7 := c7.2.2.2.2.2.2
  obtain ⟨c124, c126, c128, c130, c132⟩ := B7.1.2.1
  refine k_setBig (a := 132) (a1 := 130) (L := 15) (by omega) (by omega) c132 v7 (by omega) (fun ν9 s1 s2 => ?_)
  refine k_reckonAlone (law := law) (m := m) (G := G) (who := x) (by omega) (k1.keep (fun b b0 b1 => s1 b (by omega) (by omega))) k2 (k3.keep (fun b hb => s1 b (by omega) (by omega))) rfl (by omega) ⟨c126.keep (s1 _ (by omega) (by omega)) (s1 _ (by omega) (by omega)), c128.keep (s1 _ (by omega) (by omega)) (s1 _ (by omega) (by omega)), c130.keep (s1 _ (by omega) (by omega)) (s1 _ (by omega) (by omega))⟩ (fun ν11 t1 t2 t3 t4 t5 t6 t7 => ?_)
  rw [s1 106 (by decide) (by decide), k4] at t6 t7
  have s11 := s2.keep (t1 _ (by omega) (by omega) (by omega)) (t1 _ (by omega) (by omega) (by omega))
  refine k_against (a := 132) (a1 := 130) (L := 15) (by omega) s11 t7 ?_
  have f : ∀ b : Int, b ≠ 105 → ¬ (107 ≤ b ∧ b ≤ 133) → ν11 b = ν7 b := fun b b0 b1 => by rw [t1 b b0 (by omega) (by omega), s1 b (by omega) (by omega)]
  have B9 : zBigs ν9 := B7.rk (fun b b0 b1 => s1 b (by omega) (by omega)) (fun s s0 s3 => ⟨(B7.1.1 s s0 s3).1.keep (s1 _ (by omega) (by omega)) (s1 _ (by omega) (by omega)), (B7.1.1 s s0 s3).2.keep (s1 _ (by omega) (by omega)) (s1 _ (by omega) (by omega))⟩) ⟨c124.keep (s1 _ (by omega) (by omega)) (s1 _ (by omega) (by omega)), c126.keep (s1 _ (by omega) (by omega)) (s1 _ (by omega) (by omega)), c128.keep (s1 _ (by omega) (by omega)) (s1 _ (by omega) (by omega)), c130.keep (s1 _ (by omega) (by omega)) (s1 _ (by omega) (by omega)), s2.1⟩
  have B11 : zBigs ν11 := B9.any (fun b hb => t1 b (by omega) (by omega) (by omega)) t5 t6 t7
  have c11 : zCm ν7 ν11 := ⟨fun b b0 b1 => f b (by omega) (by omega), f _ (by decide) (by decide), fun b b0 b1 => f b (by omega) (by omega), fun b b0 b1 => f b (by omega) (by omega), f _ (by decide) (by decide), by rw [f 1320 (by decide) (by decide)]; exact ⟨rfl, rfl, rfl, rfl⟩, B11⟩
  refine ref _ _ (c7.trans c11) (fun G' hG' _ _ => ?_) (fun c => absurd ⟨⟨x0, x1⟩, y0, y1⟩ c)
  obtain rfl : G = G' := by omega
  have ec : c = (fun p g => zcha (zalt (zalt (zMd (μ 1322) (μ 1322 0) m 0 0) 8) 10) law (-1) p g 0 0) := by
    rw [← hc]
    funext p g
    exact zal_cha
  rw [ec]
theorem p_sooner {Q : Int → Int → zM → Prop} {x y : Int} (h : zInv zLR μ) (hd : 7 ≤ d) (hQ : ∀ v ρ, zInv zLR ρ → Q v v ρ) : zCi X true l d 0 0 y_S_sooner [(12, 0, 0), (0, 0, x), (0, 0, y)] μ (fun v ν => zCi X true l d 0 0 y_M_sooner [(13, 0, 1320), (0, 0, x), (0, 0, y)] ν (fun w ρ => Q v w ρ)) := by
  obtain ⟨u0, u1, u2⟩ := h.use
  obtain ⟨m0, m1, m2⟩ := h.many u1 u2
  obtain ⟨g0, g1, g2⟩ := h.long
  obtain ⟨f0, f1, f2, f3⟩ := h.force
  obtain ⟨law, hl⟩ := h.law (x := μ 1322 1) (by omega)
  have hl : zLk μ (μ 1322 1) law := hl
  have hB := h.2.2.2.2.2.2.2.2
  obtain ⟨m, hm⟩ : ∃ m : Nat, μ 1322 (10 + μ 1322 0) = m := ⟨(μ 1322 (10 + μ 1322 0)).toNat, by omega⟩
  obtain ⟨N, hN⟩ : ∃ N : Nat, μ 1322 2 = N := ⟨(μ 1322 2).toNat, by omega⟩
  generalize hF : (fun G : Nat => zmil (zev (zMd (μ 1322) (μ 1322 0) m 0 0) law (-1) x m G) (m * G)) = F
  have hF' : ∀ G : Nat, zmil (zev (zMd (μ 1322) (μ 1322 0) m 0 0) law (-1) x m G) (m * G) = F G := fun G => by rw [← hF]
  have vb : ∀ G : Nat, 0 ≤ zev (zMd (μ 1322) (μ 1322 0) m 0 0) law (-1) x m G ∧ zev (zMd (μ 1322) (μ 1322 0) m 0 0) law (-1) x m G ≤ 100 ^ (m * G) := fun G => zev_bd (by omega)
  have ref : ∀ (v : Int) (ν : zM), zCm μ ν → ((-1 ≤ x ∧ x < m) → 0 ≤ y → y ≤ 1000000 → v = zfst F y (N + 1) 0) → (¬ ((-1 ≤ x ∧ x < m) ∧ 0 ≤ y ∧ y ≤ 1000000) → v = -1) → zCi X true l d 0 0 y_M_sooner [(13, 0, 1320), (0, 0, x), (0, 0, y)] ν (fun w ρ => Q v w ρ) := by
    intro v ν cν hv hv2
    have c2 := cν.trans (zCm.thrown (h.cm cν))
    have er := c2.row
    refine c_M_sooner (a0 := 1320) (d1 := 6) (by omega) (k_lookAtUse (by omega) (by rw [er]; exact ⟨u1, u2⟩) ?_)
    rw [er, hm]
    generalize hμ2 : zup (zup (zup (zup (zup (zup ν 1320 0 0) 1320 30 (μ 1322 0)) 1320 31 (m : Int)) 1320 32 (μ 1322 1)) 1320 33 (-1)) 1320 34 0 = μ2
    have q31 : μ2 1320 31 = m := by rw [← hμ2]; simp [zup]
    have c3 : zCm μ μ2 := by
      refine cν.trans (zCm.of cν.2.2.2.2.2.2 (fun b b0 _ => ?_) (fun j hj => ?_))
      · rw [← hμ2, zup_ne b0, zup_ne b0, zup_ne b0, zup_ne b0, zup_ne b0, zup_ne b0]
      · rw [← hμ2, zup_miss (by omega), zup_miss (by omega), zup_miss (by omega), zup_miss (by omega), zup_miss (by omega), zup_miss (by omega)]
    rw [q31, zwl_id (by omega) (by omega)]
    have no : v = -1 → Q v (-1) μ2 := fun e => by rw [e]; exact hQ _ _ (h.cm c3)
    refine k_M_in (fun p1 p2 => ⟨fun c => absurd c (by decide), fun _ => k_M_in (fun p3 p4 => ⟨fun _ => ?_, fun c => absurd c (by decide)⟩) (fun c => ⟨fun q => absurd rfl q, fun _ => no (hv2 (fun q => c q.2))⟩)⟩) (fun c => ⟨fun _ => no (hv2 (fun q => c (by omega))), fun q => absurd rfl q⟩)
    have ev := hv ⟨by omega, by omega⟩ p3 p4
    have loop : ∀ n i : Nat, i + n = N + 1 → v = zfst F y n i → ∀ ν3 : zM, zCm μ ν3 → zE X true l d 0 0 y_M_sooner 43 [some (13, 0, 1320), some (0, 0, x), some (0, 0, y), some (0, 0, (i : Int))] [] ν3 (zri (fun w ρ => Q v w ρ)) := by
      intro n
      induction n with
      | zero =>
        intro i hi e ν3 c4
        have er3 := c4.row
        refine s_M_sooner_43 (a0 := 1320) (d1 := 6) (by omega) ⟨fun _ => ?_, fun q => absurd (by simp only [Int.reduceAdd]; rw [er3, hN]; omega) q⟩
        rw [show v = -1 from e]
        exact hQ _ _ (h.cm c4)
      | succ n ih =>
        intro i hi e ν3 c4
        have er3 := c4.row
        have e : v = if F i < y then zfst F y n (i + 1) else i := e
        refine s_M_sooner_43 (a0 := 1320) (d1 := 6) (by omega) ⟨fun q => absurd (show ν3 1322 2 < _ from q) (by rw [er3, hN]; omega), fun _ => ?_⟩
        refine k_M_finds (m := m) (law := law) (by omega) (h.cm c4) (by rw [er3]; exact hl.cm c4) (by rw [er3]; exact hm) (fun G hG hx hy ν5 c5 e30 e31 e32 e33 e34 v5 => ⟨fun c => absurd c (by decide), fun _ => ?_⟩) (fun c => absurd ⟨⟨p1, by omega⟩, by omega, by rw [er3, hN]; omega⟩ c)
        rw [er3] at v5
        obtain rfl : G = i := by omega
        have h60 := zmn (m := m) (G := G) (by omega) (by omega)
        rw [e31, show zw ((m : Int) * G) = ((m * G : Nat) : Int) by rw [← Int.natCast_mul, zw_of (by omega) (by omega)]]
        refine k_M_millionths (by omega) (by omega) (by decide) h60 v5 (by rw [← zhun]; exact (vb G).2) (fun ν7 s1 => ?_)
        have eF := hF' G
        unfold zmil at eF
        rw [eF]
        have c7 : zCm μ ν7 := (c4.trans c5).trans (zCm.of c5.2.2.2.2.2.2 (fun b b0 b1 => s1 b (by omega)) (fun j hj => by rw [s1 1320 (by decide)]))
        refine ⟨fun z => ?_, fun z => ?_⟩
        · rw [zw_of (by omega) (by omega)]
          exact ih (G + 1) (by omega) (by rw [if_pos z] at e; exact e) ν7 c7
        · rw [if_neg z] at e
          rw [e]
          exact hQ _ _ (h.cm c7)
    exact loop (N + 1) 0 (by omega) ev μ2 c3
  refine c_S_sooner (a0 := 0) (d1 := 6) (by omega) (k_S_canReckon (by omega) h (fun x0 x1 y0 y1 => ⟨fun c => absurd c (by decide), fun _ => k_S_within (fun z0 z1 => ⟨fun _ => ?_, fun c => absurd c (by decide)⟩) (fun c => ⟨fun q => absurd rfl q, fun _ => ref _ _ (zCm.refl h) (fun a b e => absurd ⟨b, e⟩ c) (fun _ => rfl)⟩)⟩) (fun c => ⟨fun _ => ref _ _ (zCm.refl h) (fun a b e => absurd ⟨⟨a.1, by rw [hm]; exact a.2⟩, by omega, by omega⟩ c) (fun _ => rfl), fun q => absurd rfl q⟩))
  rw [hm] at x1
  have good : (-1 ≤ x ∧ x < m) ∧ 0 ≤ y ∧ y ≤ 1000000 := ⟨⟨x0, x1⟩, z0, z1⟩
  simp only [Int.reduceAdd]
  refine k_lookAround (by omega) h (fun ν n1 n2 n3 n4 => ?_)
  rw [hm] at n2
  have db := zMd_db (bs := 0) (al := 0) h.rb u1 u2 (show 0 ≤ (m : Int) by omega) (by omega)
  have cl := hl.1 ν (fun b b0 b1 => n1 b (by omega)) n3
  have B1 : zBigs ν := hB.keep2 (fun b b0 b1 => n1 b (by omega))
  have c1 : zCm μ ν := ⟨fun b b0 b1 => n1 b (by omega), n1 _ (by decide), fun b b0 b1 => n1 b (by omega), fun b b0 b1 => n1 b (by omega), n1 _ (by decide), by rw [n1 1320 (by decide)]; exact ⟨rfl, rfl, rfl, rfl⟩, B1⟩
  refine k_R_start (law := law) (m := m) (by omega) B1 n2 rfl (by omega) (fun ν1 k1 s1 => ?_)
  rw [n4] at s1
  have loop : ∀ n i : Nat, i + n = N + 1 → zfst F y (N + 1) 0 = zfst F y n i → ∀ ν3 : zM, zKr ν ν3 → (0 < n → zRk ν3 (zMd (μ 1322) (μ 1322 0) m 0 0) law (-1) x m i) → zE X true l d 0 0 y_S_sooner 36 [some (12, 0, 0), none, some (0, 0, y), some (0, 0, (i : Int))] [] ν3 (zri (fun v ν => zCi X true l d 0 0 y_M_sooner [(13, 0, 1320), (0, 0, x), (0, 0, y)] ν (fun w ρ => Q v w ρ))) := by
    intro n
    induction n with
    | zero =>
      intro i hi e ν3 k3 s3
      have c3 := c1.trans k3.cm
      have e4 : ν3 1 4 = N := by rw [c3.1 1 (by decide) (by decide), g0]; exact hN
      refine s_S_sooner_36 (a0 := 0) (d1 := 6) (by omega) ⟨fun _ => ?_, fun q => absurd (show ν3 1 4 < _ by omega) q⟩
      exact ref _ _ c3 (fun _ _ _ => e.symm) (fun c => absurd good c)
    | succ n ih =>
      intro i hi e ν3 k3 s3
      have c3 := c1.trans k3.cm
      have s3 := s3 (by omega)
      have e4 : ν3 1 4 = N := by rw [c3.1 1 (by decide) (by decide), g0]; exact hN
      have e : zfst F y (N + 1) 0 = if F i < y then zfst F y n (i + 1) else i := e
      refine s_S_sooner_36 (a0 := 0) (d1 := 6) (by omega) ⟨fun q => absurd (show ν3 1 4 < _ from q) (by omega), fun _ => ?_⟩
      refine k_R_tell (law := law) (by omega) k3.2 (by omega) (by omega) (by omega) s3 (fun ν5 k5 s5 v5 => ?_)
      refine k_R_millionths (by omega) s5.2.2.1 (by omega) s5.2.1 (by omega) v5 (vb i).2 ?_
      rw [hF' i]
      have k8 := k3.trans k5
      refine ⟨fun z => ?_, fun z => ?_⟩
      · refine k_R_step (law := law) (by omega) k8.2 (n2.keep (fun b b0 b1 => k8.1 b (by omega) (by omega) (by omega))) db (cl.keep (fun b hb => k8.1 b (by omega) (by omega) (by omega))) (by omega) (by omega) (by omega) (by rw [k8.1 106 (by decide) (by decide) (by decide)]; exact n4) s5 (fun ν9 k9 s9 => ?_)
        rw [zw_of (by omega) (by omega)]
        exact ih (i + 1) (by omega) (by rw [e, if_pos z]) ν9 (k8.trans k9) (fun _ => s9)
      · rw [if_neg z] at e
        exact ref _ _ (c1.trans k8.cm) (fun _ _ _ => e.symm) (fun c => absurd good c)
  exact loop (N + 1) 0 (by omega) rfl ν1 k1 (fun _ => s1)
end

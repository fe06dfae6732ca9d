/-! ANY, exactly -/
def zpr (c : Int → Int) : Nat → Int
  | 0 => 1
  | n + 1 => zpr c n * (100 - c n)
def zsty (c : Int → Int → Int) (m : Nat) : Nat → Int
  | 0 => 1
  | g + 1 => zsty c m g * zpr (fun p => c p g) m
theorem zmulb {a b A B : Int} (a0 : 0 ≤ a) (a1 : a ≤ A) (b0 : 0 ≤ b) (b1 : b ≤ B) : 0 ≤ a * b ∧ a * b ≤ A * B :=
  ⟨Int.mul_nonneg a0 b0, Int.le_trans (Int.mul_le_mul_of_nonneg_right a1 b0) (Int.mul_le_mul_of_nonneg_left b1 (by omega))⟩
theorem zpr_bd {c : Int → Int} (h : ∀ p, 0 ≤ c p ∧ c p ≤ 100) : ∀ n : Nat, 0 ≤ zpr c n ∧ zpr c n ≤ 100 ^ n
  | 0 => by unfold zpr; decide
  | n + 1 => by
    have ih := zpr_bd h n
    have := h n
    unfold zpr
    rw [Int.pow_succ]
    exact zmulb ih.1 ih.2 (by omega) (by omega)
theorem zsty_bd {c : Int → Int → Int} (h : ∀ p g, 0 ≤ c p g ∧ c p g ≤ 100) (m : Nat) : ∀ g : Nat, 0 ≤ zsty c m g ∧ zsty c m g ≤ 100 ^ (m * g)
  | 0 => by unfold zsty; simp
  | g + 1 => by
    have ih := zsty_bd h m g
    have := zpr_bd (fun p => h p g) m
    unfold zsty
    rw [Nat.mul_succ, Int.pow_add]
    exact zmulb ih.1 ih.2 this.1 this.2
def zmil (v : Int) (h : Nat) : Int := v * 10 ^ (6 - 2 * h) / 10 ^ (2 * h - 6)
theorem z120 {n : Nat} (h : n ≤ 60) : (100 : Int) ^ n < zpw 15 := by
  rw [zhun, zpw_ten]
  have := zten_mono (m := 2 * n) (n := 134) (by omega)
  have e : (10 : Int) ^ (9 * 15) = 10 ^ 134 * 10 := by decide
  have := zten_pos 134
  omega
theorem zhm_mono {m n : Nat} (h : m ≤ n) : (100 : Int) ^ m ≤ 100 ^ n := by
  rw [zhun, zhun]
  exact zten_mono (by omega)
theorem zmn {m G : Nat} (hm : m ≤ 5) (hG : G ≤ 12) : m * G ≤ 60 := Nat.mul_le_mul hm hG
theorem zwmn {m G : Nat} (hm : m ≤ 5) (hG : G ≤ 12) : zw (zw (2 * (m : Int)) * G) = ((2 * (m * G) : Nat) : Int) := by
  have h := zmn hm hG
  rw [zw_of (x := 2 * (m : Int)) (by omega) (by omega)]
  have e : 2 * (m : Int) * G = ((2 * (m * G) : Nat) : Int) := by rw [Int.mul_assoc, ← Int.natCast_mul]; rfl
  rw [e, zw_of (by omega) (by omega)]
section
variable {X : zX} {l : Launch} {d : Nat} {μ : zM} {δ : Nat → Int → Int} {law : Option zLaw}
/-- the Reckoner's own three numbers -/
def zR3 (μ : zM) : Prop := zBig μ 126 15 ∧ zBig μ 128 15 ∧ zBig μ 130 15
theorem k_stepTogether {m G : Nat} {v : Int} {Q : zM → Prop} (hd : 3 ≤ d) (hC : zCd μ δ) (hD : zDb δ) (hL : zCL μ law) (hm : μ 105 3 = m) (m5 : m ≤ 5) (hg : μ 105 2 = G) (g12 : G < 12) (hv : zBv μ 128 15 v) (v1 : v ≤ 100 ^ (m * G))
    (hQ : ∀ ν, (∀ b : Int, b ≠ 105 → b ≠ 119 → b ≠ 120 → b ≠ 128 → b ≠ 129 → ν b = μ b) → (∀ j : Int, j ≠ 2 → ν 105 j = μ 105 j) → ν 105 2 = ((G + 1 : Nat) : Int) → zBv ν 128 15 (v * zpr (fun p => zcha δ law (μ 106 5) p G 0 0) m) → Q ν) : zCv X true l d 0 0 y_Reckoner_stepTogether [(6, 0, 105)] μ Q := by
  have cb : ∀ p : Int, 0 ≤ zcha δ law (μ 106 5) p G 0 0 ∧ zcha δ law (μ 106 5) p G 0 0 ≤ 100 := fun p => zcha_bd
  have v0 := hv.bd.1
  have loop : ∀ k i : Nat, i + k = m → ∀ ν : zM, (∀ b : Int, b ≠ 119 → b ≠ 120 → b ≠ 128 → b ≠ 129 → ν b = μ b) → zBv ν 128 15 (v * zpr (fun p => zcha δ law (μ 106 5) p G 0 0) i) → zE X true l d 0 0 y_Reckoner_stepTogether 2 [some (6, 0, 105), some (0, 0, (i : Int))] [] ν (zrn Q) := by
    intro k
    induction k with
    | zero =>
      intro i hi ν n1 n2
      obtain rfl : i = m := by omega
      have e105 : ν 105 = μ 105 := n1 105 (by decide) (by decide) (by decide) (by decide)
      refine s_Reckoner_stepTogether_2 (a0 := 105) (d1 := 2) (by omega) ⟨fun _ => hQ _ (fun b b0 b1 b2 b3 b4 => ?_) (fun j hj => ?_) ?_ (n2.keep (zup_ne (by decide)) (zup_ne (by decide))), fun c => absurd (by rw [e105]; omega) c⟩
      · rw [zup_ne b0]; exact n1 b b1 b2 b3 b4
      · rw [zup_miss (by omega), e105]
      · rw [zup_hit, e105, hg, zw_of (by omega) (by omega)]
        rfl
    | succ k ih =>
      intro i hi ν n1 n2
      have e105 : ν 105 = μ 105 := n1 105 (by decide) (by decide) (by decide) (by decide)
      have e106 : ν 106 = μ 106 := n1 106 (by decide) (by decide) (by decide) (by decide)
      refine s_Reckoner_stepTogether_2 (a0 := 105) (d1 := 2) (by omega) ⟨fun c => absurd c (by rw [e105]; omega), fun _ => ⟨fun c => absurd c (by omega), fun _ => ?_⟩⟩
      rw [e105, hg]
      refine k_chanceOf (by omega) (hC.keep (fun b b0 b1 => n1 b (by omega) (by omega) (by omega) (by omega))) hD (hL.keep (fun b b0 => n1 b (by omega) (by omega) (by omega) (by omega))) (by omega) (by omega) (by omega) (by omega) (fun ν2 t1 => ?_)
      rw [e106]
      have cc := cb i
      rw [zw_of (x := 100 - _) (by omega) (by omega)]
      have pb := zpr_bd (c := fun p => zcha δ law (μ 106 5) p G 0 0) cb i
      have hb2 := zmulb v0 v1 pb.1 pb.2
      rw [← Int.pow_add] at hb2
      have lim : v * zpr (fun p => zcha δ law (μ 106 5) p G 0 0) i * (100 - zcha δ law (μ 106 5) i G 0 0) < zpw 15 := by
        have h3 := zmulb hb2.1 hb2.2 (show 0 ≤ 100 - zcha δ law (μ 106 5) i G 0 0 by omega) (show 100 - zcha δ law (μ 106 5) i G 0 0 ≤ 100 by omega)
        rw [← Int.pow_succ] at h3
        have h4 := zmn m5 (show G + 1 ≤ 12 by omega)
        rw [Nat.mul_succ] at h4
        have h5 := z120 (n := (m * G + i).succ) (by omega)
        omega
      refine k_timesSmall (by omega) (by omega) (n2.keep (t1 128 (by decide) (by decide)) (t1 129 (by decide) (by decide))) (by omega) (by omega) lim (fun ν3 q1 q2 => ?_)
      rw [zw_of (by omega) (by omega)]
      refine ih (i + 1) (by omega) ν3 (fun b b0 b1 b2 b3 => ?_) ?_
      · rw [q1 b b2 b3, t1 b b0 b1]; exact n1 b b0 b1 b2 b3
      · unfold zpr
        rw [← Int.mul_assoc]
        exact q2
  exact c_Reckoner_stepTogether (loop m 0 (by omega) μ (fun _ _ _ _ _ => rfl) (by simpa [zpr] using hv))
/-- whole and told, once stayed is known -/
theorem k_tell69 {m G : Nat} {v : Int} {Q : zM → Prop} (hd : 3 ≤ d) (hm : μ 105 3 = m) (m5 : m ≤ 5) (hg : μ 105 2 = G) (g12 : G ≤ 12) (h1 : zBig μ 126 15) (h3 : zBig μ 130 15) (hv : zBv μ 128 15 v) (v1 : v ≤ 100 ^ (m * G))
    (hQ : ∀ ν, (∀ b : Int, ¬ (126 ≤ b ∧ b ≤ 127) → ¬ (130 ≤ b ∧ b ≤ 131) → ν b = μ b) → zBv ν 126 15 (100 ^ (m * G)) → zBv ν 130 15 (100 ^ (m * G) - v) → Q ν) : zE X true l d 0 0 y_Reckoner_tell 69 [some (6, 0, 105), none, none] [] μ (zrn Q) := by
  have h60 := zmn m5 g12
  refine s_Reckoner_tell_69 (a0 := 105) (d1 := 2) (by omega) ?_
  rw [hm, hg, zwmn m5 g12]
  refine k_setTen (by omega) (by omega) h1 (by omega) (fun ν n1 n2 => ?_)
  rw [← zhun] at n2
  exact k_setDifference (by omega) (by omega) (h3.keep (n1 130 (by decide) (by decide)) (n1 131 (by decide) (by decide))) n2 (hv.keep (n1 128 (by decide) (by decide)) (n1 129 (by decide) (by decide))) (by decide) (by decide) v1 (fun ν2 t1 t2 => hQ ν2 (fun b b0 b1 => by rw [t1 b (fun e => b1 ⟨by omega, by omega⟩) (fun e => b1 ⟨by omega, by omega⟩)]; exact n1 b (fun e => b0 ⟨by omega, by omega⟩) (fun e => b0 ⟨by omega, by omega⟩)) (n2.keep (t1 126 (by decide) (by decide)) (t1 127 (by decide) (by decide))) t2)
/-- what is left by a reckoning of ANY -/
theorem k_reckonAny {m G : Nat} {Q : zM → Prop} (hd : 4 ≤ d) (hC : zCd μ δ) (hD : zDb δ) (hL : zCL μ law) (hm : δ 10 0 = m) (g12 : G ≤ 12) (hB : zR3 μ)
    (hQ : ∀ ν, (∀ b : Int, b ≠ 105 → ¬ (119 ≤ b ∧ b ≤ 120) → ¬ (126 ≤ b ∧ b ≤ 131) → ν b = μ b) → (∀ j : Int, j ≠ 1 → j ≠ 2 → j ≠ 3 → ν 105 j = μ 105 j) → ν 105 1 = -1 → ν 105 2 = (G : Int) → ν 105 3 = (m : Int) → zBv ν 126 15 (100 ^ (m * G)) → zBv ν 128 15 (zsty (fun p g => zcha δ law (μ 106 5) p g 0 0) m G) → zBv ν 130 15 (100 ^ (m * G) - zsty (fun p g => zcha δ law (μ 106 5) p g 0 0) m G) → Q ν) : zCv X true l d 0 0 y_Reckoner_reckonAny [(6, 0, 105), (0, 0, (G : Int))] μ Q := by
  obtain ⟨B1, B2, B3⟩ := hB
  have m5 : m ≤ 5 := by have := hD.2.2; omega
  have cb : ∀ p g : Int, 0 ≤ zcha δ law (μ 106 5) p g 0 0 ∧ zcha δ law (μ 106 5) p g 0 0 ≤ 100 := fun p g => zcha_bd
  have c107 := hC.2.2
  refine c_Reckoner_reckonAny (a0 := 105) (d1 := 3) (by omega) (c_Reckoner_start (a0 := 105) (d1 := 2) (by omega) ?_)
  simp only [Int.reduceAdd]
  rw [zup_ne (show (107 : Int) ≠ 105 by decide), zup_ne (show (107 : Int) ≠ 105 by decide), c107, hm]
  generalize hμ1 : zup (zup (zup μ 105 1 (-1)) 105 2 0) 105 3 (m : Int) = μ1
  have f0 : ∀ b : Int, b ≠ 105 → μ1 b = μ b := fun b hb => by rw [← hμ1, zup_ne hb, zup_ne hb, zup_ne hb]
  have f1 : μ1 105 1 = -1 := by rw [← hμ1]; simp [zup]
  have f2 : μ1 105 2 = 0 := by rw [← hμ1]; simp [zup]
  have f3 : μ1 105 3 = m := by rw [← hμ1]; simp [zup]
  have fj : ∀ j : Int, j ≠ 1 → j ≠ 2 → j ≠ 3 → μ1 105 j = μ 105 j := fun j j1 j2 j3 => by rw [← hμ1, zup_miss (by omega), zup_miss (by omega), zup_miss (by omega)]
  refine k_setSmall (by omega) (by omega) (by omega) (B2.keep (f0 128 (by decide)) (f0 129 (by decide))) (by decide) (by decide) (fun ν1 n1 n2 => ⟨fun _ => ?_, fun c => absurd trivial c⟩)
  have loop : ∀ k i : Nat, i + k = G → ∀ ν : zM, (∀ b : Int, b ≠ 105 → ¬ (119 ≤ b ∧ b ≤ 120) → ¬ (128 ≤ b ∧ b ≤ 129) → ν b = μ b) → (∀ j : Int, j ≠ 2 → ν 105 j = μ1 105 j) → ν 105 2 = (i : Int) → zBv ν 128 15 (zsty (fun p g => zcha δ law (μ 106 5) p g 0 0) m i) → zE X true l d 0 0 y_Reckoner_reckonAny 7 [some (6, 0, 105), some (0, 0, (G : Int)), some (0, 0, (i : Int))] [] ν (zrn Q) := by
    intro k
    induction k with
    | zero =>
      intro i hi ν q1 q2 q3 q4
      obtain rfl : i = G := by omega
      have e3 : ν 105 3 = m := by rw [q2 3 (by decide)]; exact f3
      have sb := zsty_bd cb m i
      refine s_Reckoner_reckonAny_7 (a0 := 105) (d1 := 3) (by omega) ⟨fun _ => c_Reckoner_tell (a0 := 105) (d1 := 2) (by omega) ⟨fun _ => k_tell69 (by omega) e3 m5 q3 g12 (B1.keep (q1 126 (by decide) (by decide) (by decide)) (q1 127 (by decide) (by decide) (by decide))) (B3.keep (q1 130 (by decide) (by decide) (by decide)) (q1 131 (by decide) (by decide) (by decide))) q4 sb.2 (fun ν2 t1 t2 t3 => ?_), fun c => absurd (by rw [q2 1 (by decide)]; exact f1) c⟩, fun c => absurd (by omega) c⟩
      have e105 : ν2 105 = ν 105 := t1 105 (by decide) (by decide)
      refine hQ ν2 (fun b b0 b1 b2 => ?_) (fun j j1 j2 j3 => ?_) (by rw [e105, q2 1 (by decide)]; exact f1) (by rw [e105]; exact q3) (by rw [e105]; exact e3) t2 (q4.keep (t1 128 (by decide) (by decide)) (t1 129 (by decide) (by decide))) t3
      · rw [t1 b (by omega) (by omega)]; exact q1 b b0 b1 (by omega)
      · rw [e105, q2 j j2]; exact fj j j1 j2 j3
    | succ k ih =>
      intro i hi ν q1 q2 q3 q4
      have e3 : ν 105 3 = m := by rw [q2 3 (by decide)]; exact f3
      have e106 : ν 106 = μ 106 := q1 106 (by decide) (by decide) (by decide)
      have sb := zsty_bd cb m i
      refine s_Reckoner_reckonAny_7 (a0 := 105) (d1 := 3) (by omega) ⟨fun c => absurd c (by omega), fun _ => ⟨fun c => absurd c (by omega), fun _ => k_stepTogether (by omega) (hC.keep (fun b b0 b1 => q1 b (by omega) (by omega) (by omega))) hD (hL.keep (fun b b0 => q1 b (by omega) (by omega) (by omega))) e3 m5 q3 (by omega) q4 sb.2 (fun ν2 t1 t2 t3 t4 => ?_)⟩⟩
      rw [zw_of (by omega) (by omega)]
      refine ih (i + 1) (by omega) ν2 (fun b b0 b1 b2 => ?_) (fun j hj => ?_) t3 ?_
      · rw [t1 b b0 (by omega) (by omega) (by omega) (by omega)]; exact q1 b b0 b1 b2
      · rw [t2 j hj]; exact q2 j hj
      · rw [e106] at t4
        exact t4
  refine loop G 0 (by omega) ν1 (fun b b0 b1 b2 => ?_) (fun j hj => ?_) ?_ n2
  · rw [n1 b (fun e => b2 ⟨by omega, by omega⟩) (fun e => b2 ⟨by omega, by omega⟩)]; exact f0 b b0
  · rw [n1 105 (by decide) (by decide)]
  · rw [n1 105 (by decide) (by decide)]; exact f2
theorem k_R_millionths {m G : Nat} {v : Int} {Q : Int → zM → Prop} (hd : 2 ≤ d) (hm : μ 105 3 = m) (m5 : m ≤ 5) (hg : μ 105 2 = G) (g12 : G ≤ 12) (hv : zBv μ 130 15 v) (v1 : v ≤ 100 ^ (m * G)) (hQ : Q (zmil v (m * G)) μ) : zCi X true l d 0 0 y_Reckoner_millionths [(6, 0, 105)] μ Q := by
  have h60 := zmn m5 g12
  have v0 := hv.bd.1
  rw [zhun] at v1
  unfold zmil at hQ
  refine c_Reckoner_millionths (a0 := 105) (d1 := 1) (by omega) ?_
  rw [hm, hg, zwmn m5 g12]
  generalize m * G = h at *
  refine ⟨fun c => ?_, fun c => ?_⟩
  · have hh : h = 0 ∨ h = 1 ∨ h = 2 := by omega
    refine k_figures (s := 0) (m := 7) (by omega) (by omega) hv (by omega) (by omega) ?_
    rw [show 2 * h - 6 = 0 by omega, show (10 : Int) ^ 0 = 1 by decide, Int.ediv_one] at hQ
    have r1 : v / 10 ^ 0 % 10 ^ 7 = v := by
      rw [show (10 : Int) ^ 0 = 1 by decide, show (10 : Int) ^ 7 = 10000000 by decide]
      rcases hh with rfl | rfl | rfl
      · rw [show (10 : Int) ^ (2 * 0) = 1 by decide] at v1; omega
      · rw [show (10 : Int) ^ (2 * 1) = 100 by decide] at v1; omega
      · rw [show (10 : Int) ^ (2 * 2) = 10000 by decide] at v1; omega
    rw [r1]
    have lp : ∀ k i : Nat, i + k = 6 → ∀ w : Int, 0 ≤ w → w * 10 ^ k ≤ 1000000 → Q (w * 10 ^ k) μ → zE X true l d 0 0 y_Reckoner_millionths 45 [none, none, some (0, 0, w), some (0, 0, (i : Int))] [] μ (zri Q) := by
      intro k
      induction k with
      | zero =>
        intro i hi w w0 w1 hw
        rw [show (10 : Int) ^ 0 = 1 by decide, Int.mul_one] at hw
        exact s_Reckoner_millionths_45 ⟨fun _ => hw, fun c => absurd (by omega) c⟩
      | succ k ih =>
        intro i hi w w0 w1 hw
        rw [Int.pow_succ, Int.mul_comm (10 ^ k) 10, ← Int.mul_assoc] at hw w1
        have p1 : 1 ≤ (10 : Int) ^ k := by have := zten_pos k; omega
        have p2 : w * 10 * 1 ≤ w * 10 * 10 ^ k := Int.mul_le_mul_of_nonneg_left p1 (by omega)
        refine s_Reckoner_millionths_45 ⟨fun c => absurd c (by omega), fun _ => ?_⟩
        rw [zw_of (x := w * 10) (by omega) (by omega), zw_of (by omega) (by omega)]
        exact ih (i + 1) (by omega) (w * 10) (by omega) w1 hw
    refine lp (6 - 2 * h) (2 * h) (by omega) v v0 ?_ hQ
    rcases hh with rfl | rfl | rfl
    · rw [show (10 : Int) ^ (2 * 0) = 1 by decide] at v1; rw [show (10 : Int) ^ (6 - 2 * 0) = 1000000 by decide]; omega
    · rw [show (10 : Int) ^ (2 * 1) = 100 by decide] at v1; rw [show (10 : Int) ^ (6 - 2 * 1) = 10000 by decide]; omega
    · rw [show (10 : Int) ^ (2 * 2) = 10000 by decide] at v1; rw [show (10 : Int) ^ (6 - 2 * 2) = 100 by decide]; omega
  · rw [zw_of (by omega) (by omega), show ((2 * h : Nat) : Int) - 6 = ((2 * h - 6 : Nat) : Int) by omega]
    refine k_figures (s := 2 * h - 6) (m := 7) (by omega) (by omega) hv (by omega) (by omega) ?_
    rw [show 6 - 2 * h = 0 by omega, show (10 : Int) ^ 0 = 1 by decide, Int.mul_one] at hQ
    have p := zten_pos (2 * h - 6)
    have e : (10 : Int) ^ (2 * h) = 1000000 * 10 ^ (2 * h - 6) := by rw [show (1000000 : Int) = 10 ^ 6 by decide, ← Int.pow_add]; congr 1; omega
    have lt : v / 10 ^ (2 * h - 6) < 10 ^ 7 := by
      refine Int.ediv_lt_of_lt_mul p ?_
      rw [show (10 : Int) ^ 7 = 10000000 by decide]
      omega
    rw [Int.emod_eq_of_lt (Int.ediv_nonneg v0 (by omega)) lt]
    exact hQ
/-- the reference's ANY -/
theorem k_findAny {P bs : Int} {m G : Nat} {Q : zM → Prop} (hd : 4 ≤ d) (hR : zRB (μ 1322)) (hP : μ 1320 30 = P) (P0 : 0 ≤ P) (P1 : P < 6) (hm : μ 1320 31 = m) (m5 : m ≤ 5) (hb : μ 1320 34 = bs) (hL : zML μ law) (g12 : G ≤ 12)
    (hQ : ∀ ν, (∀ b : Int, b ≠ 1320 → ¬ (1331 ≤ b ∧ b ≤ 1334) → ν b = μ b) → (∀ j : Int, j ≠ 24 → j ≠ 27 → j ≠ 28 → j ≠ 29 → ν 1320 j = μ 1320 j) → zRn ν 1334 16 (100 ^ (m * G)) → zRn ν 1333 16 (100 ^ (m * G) - zsty (fun p g => zcha (zMd (μ 1322) P m bs 0) law (μ 1320 33) p g 0 0) m G) → Q ν) : zCv X true l d 0 0 y_M_findAny [(13, 0, 1320), (0, 0, (G : Int))] μ Q := by
  have cb : ∀ p g : Int, 0 ≤ zcha (zMd (μ 1322) P m bs 0) law (μ 1320 33) p g 0 0 ∧ zcha (zMd (μ 1322) P m bs 0) law (μ 1320 33) p g 0 0 ≤ 100 := fun p g => zcha_bd
  have h60 := zmn m5 g12
  have big : ∀ {n : Nat}, n ≤ 60 → (100 : Int) ^ n < zpw 16 := fun {n} hn => by
    have := z120 hn
    have := zpw_mono (m := 15) (n := 16) (by omega)
    omega
  refine c_M_findAny (a0 := 1320) (d1 := 3) (by omega) (k_M_setTo (c := 1333) (n := 16) (by omega) (by omega) (by omega) (by decide) (by decide) (fun ν1 n1 n2 => ?_))
  -- the frame of the loops
  have fr : ∀ ν : zM, (∀ b : Int, b ≠ 1320 → ¬ (1331 ≤ b ∧ b ≤ 1333) → ν b = μ b) → (∀ j : Int, j ≠ 24 → j ≠ 27 → j ≠ 28 → j ≠ 29 → ν 1320 j = μ 1320 j) → ν 1322 = μ 1322 ∧ ν 1320 30 = P ∧ ν 1320 31 = m ∧ ν 1320 34 = bs ∧ ν 1320 33 = μ 1320 33 ∧ zML ν law := fun ν q1 q2 => by
    have e22 := q1 1322 (by decide) (by decide)
    have e32 := q2 32 (by decide) (by decide) (by decide) (by decide)
    refine ⟨e22, by rw [q2 30 (by decide) (by decide) (by decide) (by decide)]; exact hP, by rw [q2 31 (by decide) (by decide) (by decide) (by decide)]; exact hm, by rw [q2 34 (by decide) (by decide) (by decide) (by decide)]; exact hb, q2 33 (by decide) (by decide) (by decide) (by decide), ?_⟩
    cases law with
    | none => unfold zML at hL ⊢; rw [e32]; exact hL
    | some w => unfold zML at hL ⊢; rw [e32, e22]; exact hL
  have l19 : ∀ k i : Nat, i + k = m → ∀ (g : Nat) (ν : zM), g < G → (∀ b : Int, b ≠ 1320 → ¬ (1331 ≤ b ∧ b ≤ 1333) → ν b = μ b) → (∀ j : Int, j ≠ 24 → j ≠ 27 → j ≠ 28 → j ≠ 29 → ν 1320 j = μ 1320 j) → zRn ν 1333 16 (zsty (fun p g => zcha (zMd (μ 1322) P m bs 0) law (μ 1320 33) p g 0 0) m g * zpr (fun p => zcha (zMd (μ 1322) P m bs 0) law (μ 1320 33) p g 0 0) i) → (∀ ν' : zM, (∀ b : Int, b ≠ 1320 → ¬ (1331 ≤ b ∧ b ≤ 1333) → ν' b = μ b) → (∀ j : Int, j ≠ 24 → j ≠ 27 → j ≠ 28 → j ≠ 29 → ν' 1320 j = μ 1320 j) → zRn ν' 1333 16 (zsty (fun p g => zcha (zMd (μ 1322) P m bs 0) law (μ 1320 33) p g 0 0) m (g + 1)) → zE X true l d 0 0 y_M_findAny 12 [some (13, 0, 1320), some (0, 0, (G : Int)), some (0, 0, ((g + 1 : Nat) : Int)), none] [] ν' (zrn Q)) → zE X true l d 0 0 y_M_findAny 19 [some (13, 0, 1320), some (0, 0, (G : Int)), some (0, 0, (g : Int)), some (0, 0, (i : Int))] [] ν (zrn Q) := by
    intro k
    induction k with
    | zero =>
      intro i hi g ν hg q1 q2 q3 kk
      obtain rfl : i = m := by omega
      obtain ⟨e22, e30, e31, e34, e33, eL⟩ := fr ν q1 q2
      refine s_M_findAny_19 (a0 := 1320) (d1 := 3) (by omega) ⟨fun _ => ?_, fun c => absurd (by omega) c⟩
      rw [zw_of (by omega) (by omega)]
      exact kk ν q1 q2 q3
    | succ k ih =>
      intro i hi g ν hg q1 q2 q3 kk
      obtain ⟨e22, e30, e31, e34, e33, eL⟩ := fr ν q1 q2
      refine s_M_findAny_19 (a0 := 1320) (d1 := 3) (by omega) ⟨fun c => absurd c (by omega), fun _ => k_M_chanceOf (law := law) (by omega) (by rw [e22]; exact hR) e30 P0 P1 e31 (by omega) (by omega) e34 eL (by omega) (by omega) (by omega) (by omega) (fun ν2 t1 t2 => ?_)⟩
      rw [e22, e33]
      have cc := cb i g
      rw [zwl_id (by omega) (by omega)]
      have sb := zsty_bd cb m g
      have pb := zpr_bd (fun p => cb p g) i
      have hb2 := zmulb sb.1 sb.2 pb.1 pb.2
      rw [← Int.pow_add] at hb2
      have lim : zsty (fun p g => zcha (zMd (μ 1322) P m bs 0) law (μ 1320 33) p g 0 0) m g * zpr (fun p => zcha (zMd (μ 1322) P m bs 0) law (μ 1320 33) p g 0 0) i * (100 - zcha (zMd (μ 1322) P m bs 0) law (μ 1320 33) i g 0 0) < zpw 16 := by
        have h3 := zmulb hb2.1 hb2.2 (show 0 ≤ 100 - zcha (zMd (μ 1322) P m bs 0) law (μ 1320 33) i g 0 0 by omega) (show 100 - zcha (zMd (μ 1322) P m bs 0) law (μ 1320 33) i g 0 0 ≤ 100 by omega)
        rw [← Int.pow_succ] at h3
        have h4 := zmn m5 (show g + 1 ≤ 12 by omega)
        rw [Nat.mul_succ] at h4
        have h5 := big (n := (m * g + i).succ) (by omega)
        omega
      refine k_M_times (c := 1333) (n := 16) (by omega) (by omega) (q3.keep (t1 1333 (by decide) (by decide) (by decide))) (by omega) (by omega) lim (fun ν3 r1 r2 => ?_)
      rw [zw_of (by omega) (by omega)]
      refine ih (i + 1) (by omega) g ν3 hg (fun b b0 b1 => ?_) (fun j j0 j1 j2 j3 => ?_) ?_ kk
      · rw [r1 b (fun e => b1 (by rw [e]; decide)), t1 b b0 (fun e => b1 (by rw [e]; decide)) (fun e => b1 (by rw [e]; decide))]
        exact q1 b b0 b1
      · rw [r1 1320 (by decide), t2 j j0 j1 j2 j3]
        exact q2 j j0 j1 j2 j3
      · unfold zpr
        rw [← Int.mul_assoc]
        exact r2
  have l12 : ∀ k g : Nat, g + k = G → ∀ ν : zM, (∀ b : Int, b ≠ 1320 → ¬ (1331 ≤ b ∧ b ≤ 1333) → ν b = μ b) → (∀ j : Int, j ≠ 24 → j ≠ 27 → j ≠ 28 → j ≠ 29 → ν 1320 j = μ 1320 j) → zRn ν 1333 16 (zsty (fun p g => zcha (zMd (μ 1322) P m bs 0) law (μ 1320 33) p g 0 0) m g) → zE X true l d 0 0 y_M_findAny 12 [some (13, 0, 1320), some (0, 0, (G : Int)), some (0, 0, (g : Int)), none] [] ν (zrn Q) := by
    intro k
    induction k with
    | zero =>
      intro g hg ν q1 q2 q3
      obtain rfl : g = G := by omega
      obtain ⟨e22, e30, e31, e34, e33, eL⟩ := fr ν q1 q2
      refine s_M_findAny_12 (a0 := 1320) (d1 := 3) (by omega) ⟨fun _ => ?_, fun c => absurd (by omega) c⟩
      have sb := zsty_bd cb m g
      rw [e31, ← Int.natCast_mul, zw_of (by omega) (by omega)]
      exact k_findWhole (by omega) h60 (fun ν2 t1 t2 => k_M_turn (c := 1333) (c1 := 1334) (by omega) (by omega) (by decide) (q3.keep (t1 1333 (by decide))) t2 sb.2 (fun ν3 r1 r2 => hQ ν3 (fun b b0 b1 => by rw [r1 b (fun e => b1 (by rw [e]; decide)), t1 b (fun e => b1 (by rw [e]; decide))]; exact q1 b b0 (fun e => b1 ⟨e.1, by omega⟩)) (fun j j0 j1 j2 j3 => by rw [r1 1320 (by decide), t1 1320 (by decide)]; exact q2 j j0 j1 j2 j3) (t2.keep (r1 1334 (by decide))) r2))
    | succ k ih =>
      intro g hg ν q1 q2 q3
      refine s_M_findAny_12 (a0 := 1320) (d1 := 3) (by omega) ⟨fun c => absurd c (by omega), fun _ => l19 m 0 (by omega) g ν (by omega) q1 q2 (by simpa [zpr] using q3) (fun ν' w1 w2 w3 => ih (g + 1) (by omega) ν' w1 w2 w3)⟩
  exact l12 G 0 (by omega) ν1 (fun b b0 b1 => n1 b (fun e => b1 (by rw [e]; decide))) (fun j _ _ _ _ => by rw [n1 1320 (by decide)]) n2
end

/-! alone -/
theorem zsty_row {c : Int → Int → Int} {m : Nat} : ∀ G : Nat, zsty c (m + 1) G = zsty c m G * zpr (fun g => c m g) G
  | 0 => by unfold zsty zpr; rfl
  | G + 1 => by
    have ih := zsty_row (c := c) (m := m) G
    have e1 : zsty c (m + 1) (G + 1) = zsty c (m + 1) G * (zpr (fun p => c p G) m * (100 - c m G)) := rfl
    have e2 : zsty c m (G + 1) = zsty c m G * zpr (fun p => c p G) m := rfl
    have e3 : zpr (fun g => c m g) (G + 1) = zpr (fun g => c m g) G * (100 - c m G) := rfl
    rw [e1, e2, e3, ih]
    grind
theorem zpr_none {c : Int → Int} : ∀ G : Nat, (∀ g : Int, 0 ≤ g → g < G → c g = 0) → zpr c G = 100 ^ G
  | 0, _ => rfl
  | G + 1, h => by
    unfold zpr
    rw [zpr_none G (fun g a b => h g a (by omega)), h G (by omega) (by omega), Int.pow_succ]
    rfl
/-- who counts -/
def zcn (c : Int → Int → Int) (who : Int) (p g : Int) : Int := if who = -1 ∨ who = p then c p g else 0
/-- the product of those that count -/
def zalp (c : Int → Int → Int) (who : Int) (G : Nat) : Nat → Int
  | 0 => 1
  | p + 1 => zalp c who G p * (if who = -1 ∨ who = p then zpr (fun g => c p g) G else 1)
theorem zalp_s {c : Int → Int → Int} {who : Int} {G p : Nat} : zalp c who G (p + 1) = zalp c who G p * (if who = -1 ∨ who = p then zpr (fun g => c p g) G else 1) := rfl
theorem zalp_all {c : Int → Int → Int} {G : Nat} : ∀ m : Nat, zsty (zcn c (-1)) m G = zalp c (-1) G m
  | 0 => by
    unfold zalp
    induction G with
    | zero => rfl
    | succ G ih => unfold zsty; rw [ih]; rfl
  | m + 1 => by
    rw [zsty_row, zalp_all m, zalp_s, if_pos (Or.inl rfl), zpr_congr (c := fun g => zcn c (-1) m g) (c' := fun g => c m g) G (fun g _ _ => by unfold zcn; rw [if_pos (Or.inl rfl)])]
theorem zalp_one {c : Int → Int → Int} {G w : Nat} : ∀ m : Nat, (m ≤ w → zsty (zcn c w) m G = 100 ^ (m * G) ∧ zalp c w G m = 1) ∧ (w < m → zsty (zcn c w) m G * 100 ^ G = zalp c w G m * 100 ^ (m * G))
  | 0 => by
    refine ⟨fun _ => ⟨?_, rfl⟩, fun q => by omega⟩
    rw [Nat.zero_mul]
    induction G with
    | zero => rfl
    | succ G ih => unfold zsty; rw [ih]; rfl
  | m + 1 => by
    obtain ⟨i1, i2⟩ := zalp_one (c := c) (G := G) (w := w) m
    rw [zsty_row]
    unfold zalp
    by_cases e : w = m
    · subst e
      obtain ⟨a, b⟩ := i1 (Nat.le_refl _)
      refine ⟨fun q => by omega, fun _ => ?_⟩
      rw [a, b, if_pos (Or.inr rfl), zpr_congr (c := fun g => zcn c w w g) (c' := fun g => c w g) G (fun g _ _ => by unfold zcn; rw [if_pos (Or.inr rfl)]), Nat.succ_mul, Int.pow_add]
      grind
    · have ne : ¬ ((w : Int) = -1 ∨ (w : Int) = m) := by omega
      rw [if_neg ne, zpr_none (c := fun g => zcn c w m g) G (fun g _ _ => by unfold zcn; rw [if_neg ne]), Nat.succ_mul, Int.pow_add]
      refine ⟨fun q => ?_, fun q => ?_⟩
      · obtain ⟨a, b⟩ := i1 (by omega)
        rw [a, b]
        exact ⟨rfl, rfl⟩
      · have := i2 (by omega)
        grind
theorem zcn_bd {c : Int → Int → Int} {who : Int} (h : ∀ p g, 0 ≤ c p g ∧ c p g ≤ 100) (p g : Int) : 0 ≤ zcn c who p g ∧ zcn c who p g ≤ 100 := by
  unfold zcn
  split
  · exact h p g
  · omega
theorem zmil_eq (v : Int) (h : Nat) : zmil v h = v * 1000000 / 100 ^ h := by
  unfold zmil
  rw [zhun]
  by_cases c : 2 * h ≤ 6
  · rw [show 2 * h - 6 = 0 by omega, show (10 : Int) ^ 0 = 1 by decide, Int.ediv_one, show (1000000 : Int) = 10 ^ (6 - 2 * h) * 10 ^ (2 * h) by rw [← Int.pow_add, show 6 - 2 * h + 2 * h = 6 by omega]; decide, ← Int.mul_assoc, Int.mul_ediv_cancel _ (by have := zten_pos (2 * h); omega)]
  · rw [show 6 - 2 * h = 0 by omega, show (10 : Int) ^ 0 = 1 by decide, Int.mul_one, show (10 : Int) ^ (2 * h) = 10 ^ (2 * h - 6) * 1000000 by rw [show (1000000 : Int) = 10 ^ 6 by decide, ← Int.pow_add]; congr 1; omega, Int.mul_ediv_mul_of_pos_left _ _ (by decide)]
theorem zmil_more {v : Int} {h k : Nat} : zmil (v * 100 ^ k) (h + k) = zmil v h := by
  have p : (0 : Int) < 100 ^ k := Int.pow_pos (by decide)
  rw [zmil_eq, zmil_eq, Int.pow_add, Int.mul_assoc, Int.mul_comm (100 ^ k) 1000000, ← Int.mul_assoc, Int.mul_ediv_mul_of_pos_left _ _ p]
section
variable {X : zX} {l : Launch} {d : Nat} {μ : zM} {δ : Nat → Int → Int} {law : Option zLaw}
/-- the class's reckoning of those who are alone -/
theorem k_reckonAlone {who : Int} {m G : Nat} {Q : zM → Prop} (hd : 4 ≤ d) (hC : zCd μ δ) (hD : zDb δ) (hL : zCL μ law) (hm : δ 10 0 = m) (g12 : G ≤ 12) (hB : zR3 μ)
    (hQ : ∀ ν, (∀ b : Int, b ≠ 105 → ¬ (107 ≤ b ∧ b ≤ 120) → ¬ (126 ≤ b ∧ b ≤ 131) → ν b = μ b) → (∀ j : Int, j ≠ 1 → j ≠ 2 → j ≠ 3 → ν 105 j = μ 105 j) → ν 105 2 = (G : Int) → ν 105 3 = (m : Int) → zBv ν 126 15 (100 ^ (m * G)) → zBv ν 128 15 (zsty (zcn (fun p g => zcha (zalt (zalt δ 8) 10) law (μ 106 5) p g 0 0) who) m G) → zBv ν 130 15 (100 ^ (m * G) - zsty (zcn (fun p g => zcha (zalt (zalt δ 8) 10) law (μ 106 5) p g 0 0) who) m G) → Q ν) : zCv X true l d 0 0 y_Reckoner_reckonAlone [(6, 0, 105), (0, 0, who), (0, 0, (G : Int))] μ Q := by
  obtain ⟨B1, B2, B3⟩ := hB
  have m5 : m ≤ 5 := by have := hD.2.2; omega
  refine c_Reckoner_reckonAlone (a0 := 105) (d1 := 3) (by omega) (k_alter (by omega) hC (by decide) (by decide) (fun ν1 n1 n2 => k_alter (by omega) n2 (by decide) (by decide) (fun ν2 t1 t2 => c_Reckoner_start (a0 := 105) (d1 := 2) (by omega) ?_)))
  have hD2 : zDb (zalt (zalt δ 8) 10) := zalt_db (zalt_db hD)
  have hm2 : zalt (zalt δ 8) 10 10 0 = m := hm
  generalize hδ : zalt (zalt δ 8) 10 = δ' at *
  have cb : ∀ p g : Int, 0 ≤ zcha δ' law (μ 106 5) p g 0 0 ∧ zcha δ' law (μ 106 5) p g 0 0 ≤ 100 := fun p g => zcha_bd
  have nb := zcn_bd (who := who) cb
  have e0 : ∀ b : Int, ¬ (107 ≤ b ∧ b ≤ 118) → ν2 b = μ b := fun b hb => by rw [t1 b hb, n1 b hb]
  have c107 := t2.2.2
  simp only [Int.reduceAdd]
  rw [zup_ne (show (107 : Int) ≠ 105 by decide), zup_ne (show (107 : Int) ≠ 105 by decide), c107, hm2]
  generalize hμ1 : zup (zup (zup ν2 105 1 (-1)) 105 2 0) 105 3 (m : Int) = μ1
  have f0 : ∀ b : Int, b ≠ 105 → μ1 b = ν2 b := fun b hb => by rw [← hμ1, zup_ne hb, zup_ne hb, zup_ne hb]
  have f1 : μ1 105 1 = -1 := by rw [← hμ1]; simp [zup]
  have f2 : μ1 105 2 = 0 := by rw [← hμ1]; simp [zup]
  have f3 : μ1 105 3 = m := by rw [← hμ1]; simp [zup]
  have fj : ∀ j : Int, j ≠ 1 → j ≠ 2 → j ≠ 3 → μ1 105 j = μ 105 j := fun j j1 j2 j3 => by rw [← hμ1, zup_miss (by omega), zup_miss (by omega), zup_miss (by omega), e0 105 (by decide)]
  have g0 : ∀ b : Int, b ≠ 105 → ¬ (107 ≤ b ∧ b ≤ 118) → μ1 b = μ b := fun b b0 b1 => by rw [f0 b b0, e0 b b1]
  refine k_setSmall (by omega) (by omega) (by omega) (B2.keep (g0 128 (by decide) (by decide)) (g0 129 (by decide) (by decide))) (by decide) (by decide) (fun ν3 s1 s2 => ⟨fun _ => ?_, fun c => absurd trivial c⟩)
  -- any state of the loops
  have key : ∀ ν : zM, (∀ b : Int, b ≠ 105 → ¬ (119 ≤ b ∧ b ≤ 120) → ¬ (128 ≤ b ∧ b ≤ 129) → ν b = ν2 b) → zCd ν δ' ∧ zCL ν law ∧ ν 106 = μ 106 := fun ν q => ⟨t2.keep (fun b b0 b1 => q b (by omega) (by omega) (by omega)), hL.keep (fun b b0 => by rw [q b (by omega) (by omega) (by omega), e0 b (by omega)]), by rw [q 106 (by decide) (by decide) (by decide), e0 106 (by decide)]⟩
  have l39 : ∀ g : Nat, g < G → (∀ ν : zM, (∀ b : Int, b ≠ 105 → ¬ (119 ≤ b ∧ b ≤ 120) → ¬ (128 ≤ b ∧ b ≤ 129) → ν b = ν2 b) → (∀ j : Int, j ≠ 2 → ν 105 j = μ1 105 j) → ν 105 2 = ((g + 1 : Nat) : Int) → zBv ν 128 15 (zsty (zcn (fun p g => zcha δ' law (μ 106 5) p g 0 0) who) m (g + 1)) → zE X true l d 0 0 y_Reckoner_reckonAlone 25 [some (6, 0, 105), some (0, 0, who), some (0, 0, (G : Int)), some (0, 0, ((g + 1 : Nat) : Int)), none, none] [] ν (zrn Q)) → ∀ k i : Nat, i + k = m → ∀ ν : zM, (∀ b : Int, b ≠ 105 → ¬ (119 ≤ b ∧ b ≤ 120) → ¬ (128 ≤ b ∧ b ≤ 129) → ν b = ν2 b) → (∀ j : Int, j ≠ 2 → ν 105 j = μ1 105 j) → ν 105 2 = (g : Int) → zBv ν 128 15 (zsty (zcn (fun p g => zcha δ' law (μ 106 5) p g 0 0) who) m g * zpr (fun p => zcn (fun p g => zcha δ' law (μ 106 5) p g 0 0) who p g) i) → zE X true l d 0 0 y_Reckoner_reckonAlone 39 [some (6, 0, 105), some (0, 0, who), some (0, 0, (G : Int)), some (0, 0, (g : Int)), some (0, 0, (i : Int)), none] [] ν (zrn Q) := by
    intro g hg kk k
    induction k with
    | zero =>
      intro i hi ν a b c e
      obtain rfl : i = m := by omega
      have e3 : ν 105 3 = i := by rw [b 3 (by decide)]; exact f3
      refine s_Reckoner_reckonAlone_39 (a0 := 105) (d1 := 3) (by omega) ⟨fun _ => ?_, fun c => absurd (by omega) c⟩
      rw [c, zw_of (by omega) (by omega)]
      exact kk _ (fun b b0 b1 b2 => (zup_ne b0).trans (a b b0 b1 b2)) (fun j hj => by rw [zup_miss (by omega)]; exact b j hj) zup_hit (e.keep (zup_ne (by decide)) (zup_ne (by decide)))
    | succ k ih =>
      intro i hi ν a b c e
      have e3 : ν 105 3 = m := by rw [b 3 (by decide)]; exact f3
      obtain ⟨k1, k2, k3⟩ := key ν a
      have sb := zsty_bd nb m g
      have pb := zpr_bd (fun p => nb p g) i
      have hb2 := zmulb sb.1 sb.2 pb.1 pb.2
      rw [← Int.pow_add] at hb2
      -- times a number of at most 100
      have ti : ∀ (ν4 : zM) (x : Int), (∀ b : Int, b ≠ 119 → b ≠ 120 → ν4 b = ν b) → x = 100 - zcn (fun p g => zcha δ' law (μ 106 5) p g 0 0) who i g → zCv X true l 3 0 0 y_Big_timesSmall [(2, 15, 128), (0, 0, x)] ν4 (fun ν5 => zE X true l d 0 0 y_Reckoner_reckonAlone 39 [some (6, 0, 105), some (0, 0, who), some (0, 0, (G : Int)), some (0, 0, (g : Int)), some (0, 0, zw ((i : Int) + 1)), none] [] ν5 (zrn Q)) := fun ν4 x w1 hx => by
        have xb := nb i g
        have lim : zsty (zcn (fun p g => zcha δ' law (μ 106 5) p g 0 0) who) m g * zpr (fun p => zcn (fun p g => zcha δ' law (μ 106 5) p g 0 0) who p g) i * x < zpw 15 := by
          have h3 := zmulb hb2.1 hb2.2 (show 0 ≤ x by omega) (show x ≤ 100 by omega)
          rw [← Int.pow_succ] at h3
          have h4 := zmn m5 (show g + 1 ≤ 12 by omega)
          rw [Nat.mul_succ] at h4
          have h5 := z120 (n := (m * g + i).succ) (by omega)
          omega
        refine k_timesSmall (by omega) (by omega) (e.keep (w1 128 (by decide) (by decide)) (w1 129 (by decide) (by decide))) (by omega) (by omega) lim (fun ν5 w2 w3 => ?_)
        rw [zw_of (by omega) (by omega)]
        have e5 : ν5 105 = ν 105 := by rw [w2 105 (by decide) (by decide), w1 105 (by decide) (by decide)]
        refine ih (i + 1) (by omega) ν5 (fun b b0 b1 b2 => by rw [w2 b (by omega) (by omega), w1 b (by omega) (by omega)]; exact a b b0 b1 b2) (fun j hj => by rw [e5]; exact b j hj) (by rw [e5]; exact c) ?_
        unfold zpr
        rw [← Int.mul_assoc, ← hx]
        exact w3
      have s65 : who = -1 ∨ who = i → zE X true l d 0 0 y_Reckoner_reckonAlone 65 [some (6, 0, 105), some (0, 0, who), some (0, 0, (G : Int)), some (0, 0, (g : Int)), some (0, 0, (i : Int)), none] [] ν (zrn Q) := fun hw => by
        refine s_Reckoner_reckonAlone_65 (a0 := 105) (d1 := 3) (by omega) ⟨fun c => absurd c (by decide), fun _ => k_chanceOf (law := law) (by omega) k1 hD2 k2 (by omega) (by omega) (by omega) (by omega) (fun ν4 w1 => ?_)⟩
        rw [k3]
        refine ti ν4 _ w1 ?_
        have xb := cb i g
        rw [zw_of (by omega) (by omega)]
        unfold zcn
        rw [if_pos hw]
      refine s_Reckoner_reckonAlone_39 (a0 := 105) (d1 := 3) (by omega) ⟨fun c => absurd c (by omega), fun _ => ⟨fun c => absurd c (by omega), fun _ => ⟨fun e => s65 (Or.inl e), fun ne => ⟨fun ne2 => ⟨fun _ => ti ν 100 (fun _ _ _ => rfl) ?_, fun c => absurd rfl c⟩, fun e => s65 (Or.inr e)⟩⟩⟩⟩
      unfold zcn
      rw [if_neg (by omega)]
      rfl
  have l25 : ∀ k g : Nat, g + k = G → ∀ ν : zM, (∀ b : Int, b ≠ 105 → ¬ (119 ≤ b ∧ b ≤ 120) → ¬ (128 ≤ b ∧ b ≤ 129) → ν b = ν2 b) → (∀ j : Int, j ≠ 2 → ν 105 j = μ1 105 j) → ν 105 2 = (g : Int) → zBv ν 128 15 (zsty (zcn (fun p g => zcha δ' law (μ 106 5) p g 0 0) who) m g) → zE X true l d 0 0 y_Reckoner_reckonAlone 25 [some (6, 0, 105), some (0, 0, who), some (0, 0, (G : Int)), some (0, 0, (g : Int)), none, none] [] ν (zrn Q) := by
    intro k
    induction k with
    | zero =>
      intro g hg ν a b c e
      obtain rfl : g = G := by omega
      have e3 : ν 105 3 = m := by rw [b 3 (by decide)]; exact f3
      have sb := zsty_bd nb m g
      have q : ∀ b : Int, b ≠ 105 → ¬ (107 ≤ b ∧ b ≤ 120) → ¬ (128 ≤ b ∧ b ≤ 129) → ν b = μ b := fun b b0 b1 b2 => by rw [a b b0 (by omega) b2, e0 b (by omega)]
      refine s_Reckoner_reckonAlone_25 (a0 := 105) (d1 := 3) (by omega) ⟨fun _ => c_Reckoner_tell (a0 := 105) (d1 := 2) (by omega) ⟨fun _ => k_tell69 (by omega) e3 m5 c g12 (B1.keep (q 126 (by decide) (by decide) (by decide)) (q 127 (by decide) (by decide) (by decide))) (B3.keep (q 130 (by decide) (by decide) (by decide)) (q 131 (by decide) (by decide) (by decide))) e sb.2 (fun ν4 w1 w2 w3 => ?_), fun c => absurd (by rw [b 1 (by decide)]; exact f1) c⟩, fun c => absurd (by omega) c⟩
      have e105 : ν4 105 = ν 105 := w1 105 (by decide) (by decide)
      refine hQ ν4 (fun b b0 b1 b2 => by rw [w1 b (by omega) (by omega)]; exact q b b0 b1 (by omega)) (fun j j1 j2 j3 => by rw [e105, b j j2]; exact fj j j1 j2 j3) (by rw [e105]; exact c) (by rw [e105]; exact e3) w2 (e.keep (w1 128 (by decide) (by decide)) (w1 129 (by decide) (by decide))) w3
    | succ k ih =>
      intro g hg ν a b c e
      exact s_Reckoner_reckonAlone_25 (a0 := 105) (d1 := 3) (by omega) ⟨fun c => absurd c (by omega), fun _ => ⟨fun c => absurd c (by omega), fun _ => l39 g (by omega) (fun ν4 w1 w2 w3 w4 => ih (g + 1) (by omega) ν4 w1 w2 w3 w4) m 0 (by omega) ν a b c (by simpa [zpr] using e)⟩⟩
  refine l25 G 0 (by omega) ν3 (fun b b0 b1 b2 => by rw [s1 b (by omega) (by omega)]; exact f0 b b0) (fun j _ => by rw [s1 105 (by decide) (by decide)]) (by rw [s1 105 (by decide) (by decide)]; exact f2) s2
/-- the reference's -/
theorem k_findAlone {P who : Int} {m G h : Nat} {Q : zM → Prop} (hd : 4 ≤ d) (hR : zRB (μ 1322)) (hP : μ 1320 30 = P) (P0 : 0 ≤ P) (P1 : P < 6) (hm : μ 1320 31 = m) (m5 : m ≤ 5) (hb : μ 1320 34 = 0) (hL : zML μ law) (g12 : G ≤ 12) (hw : who = -1 ∧ h = m ∨ (0 ≤ who ∧ h = 1)) (hle : zalp (fun p g => zcha (zMd (μ 1322) P m 0 1) law (μ 1320 33) p g 0 0) who G m ≤ 100 ^ (h * G))
    (hQ : ∀ ν, (∀ b : Int, b ≠ 1320 → ¬ (1331 ≤ b ∧ b ≤ 1334) → ν b = μ b) → (∀ j : Int, j ≠ 24 → j ≠ 27 → j ≠ 28 → j ≠ 29 → ν 1320 j = μ 1320 j) → zRn ν 1333 16 (100 ^ (h * G) - zalp (fun p g => zcha (zMd (μ 1322) P m 0 1) law (μ 1320 33) p g 0 0) who G m) → Q ν) : zCv X true l d 0 0 y_M_findAlone [(13, 0, 1320), (0, 0, who), (0, 0, (G : Int))] μ Q := by
  have cb : ∀ p g : Int, 0 ≤ zcha (zMd (μ 1322) P m 0 1) law (μ 1320 33) p g 0 0 ∧ zcha (zMd (μ 1322) P m 0 1) law (μ 1320 33) p g 0 0 ≤ 100 := fun p g => zcha_bd
  generalize hc : (fun p g => zcha (zMd (μ 1322) P m 0 1) law (μ 1320 33) p g 0 0) = c at *
  have cb : ∀ p g : Int, 0 ≤ c p g ∧ c p g ≤ 100 := by rw [← hc]; exact cb
  have h60 := zmn m5 g12
  have hh : h * G ≤ 60 := by
    rcases hw with ⟨_, e⟩ | ⟨_, e⟩
    · rw [e]; exact h60
    · rw [e]; omega
  have ab : ∀ p : Nat, 0 ≤ zalp c who G p ∧ zalp c who G p ≤ 100 ^ (p * G) := by
    intro p
    induction p with
    | zero => unfold zalp; simp
    | succ p ih =>
      unfold zalp
      have pb := zpr_bd (c := fun g => c p g) (fun g => cb p g) G
      rw [Nat.succ_mul, Int.pow_add]
      refine zmulb ih.1 ih.2 ?_ ?_
      · split <;> omega
      · split
        · exact pb.2
        · have : (0 : Int) < 100 ^ G := Int.pow_pos (by decide)
          omega
  refine c_M_findAlone (a0 := 1320) (d1 := 3) (by omega) (k_M_setTo (c := 1333) (n := 16) (by omega) (by omega) (by omega) (by decide) (by decide) (fun ν1 n1 n2 => ?_))
  have fr : ∀ ν : zM, (∀ b : Int, b ≠ 1320 → ¬ (1331 ≤ b ∧ b ≤ 1333) → ν b = μ b) → (∀ j : Int, j ≠ 24 → j ≠ 27 → j ≠ 28 → j ≠ 29 → ν 1320 j = μ 1320 j) → ν 1322 = μ 1322 ∧ ν 1320 30 = P ∧ ν 1320 31 = m ∧ ν 1320 34 = 0 ∧ ν 1320 33 = μ 1320 33 ∧ zML ν law := fun ν q1 q2 => by
    have e22 := q1 1322 (by decide) (by decide)
    have e32 := q2 32 (by decide) (by decide) (by decide) (by decide)
    exact ⟨e22, by rw [q2 30 (by decide) (by decide) (by decide) (by decide)]; exact hP, by rw [q2 31 (by decide) (by decide) (by decide) (by decide)]; exact hm, by rw [q2 34 (by decide) (by decide) (by decide) (by decide)]; exact hb, q2 33 (by decide) (by decide) (by decide) (by decide), hL.far e32 (fun j _ => by rw [e22])⟩
  have l23 : ∀ p : Nat, p < m → (∀ ν : zM, (∀ b : Int, b ≠ 1320 → ¬ (1331 ≤ b ∧ b ≤ 1333) → ν b = μ b) → (∀ j : Int, j ≠ 24 → j ≠ 27 → j ≠ 28 → j ≠ 29 → ν 1320 j = μ 1320 j) → zRn ν 1333 16 (zalp c who G (p + 1)) → zE X true l d 0 0 y_M_findAlone 12 [some (13, 0, 1320), some (0, 0, who), some (0, 0, (G : Int)), some (0, 0, ((p + 1 : Nat) : Int)), none] [] ν (zrn Q)) → (who = -1 ∨ who = p) → ∀ k g : Nat, g + k = G → ∀ ν : zM, (∀ b : Int, b ≠ 1320 → ¬ (1331 ≤ b ∧ b ≤ 1333) → ν b = μ b) → (∀ j : Int, j ≠ 24 → j ≠ 27 → j ≠ 28 → j ≠ 29 → ν 1320 j = μ 1320 j) → zRn ν 1333 16 (zalp c who G p * zpr (fun g => c p g) g) → zE X true l d 0 0 y_M_findAlone 23 [some (13, 0, 1320), some (0, 0, who), some (0, 0, (G : Int)), some (0, 0, (p : Int)), some (0, 0, (g : Int))] [] ν (zrn Q) := by
    intro p hp kk hwp k
    induction k with
    | zero =>
      intro g hg ν a b e
      obtain rfl : g = G := by omega
      refine s_M_findAlone_23 ⟨fun _ => ?_, fun c => absurd (by omega) c⟩
      rw [zw_of (by omega) (by omega)]
      refine kk ν a b ?_
      unfold zalp
      rw [if_pos hwp]
      exact e
    | succ k ih =>
      intro g hg ν a b e
      obtain ⟨e22, e30, e31, e34, e33, eL⟩ := fr ν a b
      have s39 : zE X true l d 0 0 y_M_findAlone 39 [some (13, 0, 1320), some (0, 0, who), some (0, 0, (G : Int)), some (0, 0, (p : Int)), some (0, 0, (g : Int))] [] ν (zrn Q) := by
        refine s_M_findAlone_39 (a0 := 1320) (d1 := 3) (by omega) (k_M_chanceOf (law := law) (by omega) (by rw [e22]; exact hR) e30 P0 P1 e31 (by omega) (by omega) e34 eL (by omega) (by omega) (by omega) (by omega) (fun ν2 t1 t2 => ?_))
        rw [e22, e33]
        have ec : zcha (zMd (μ 1322) P m 0 1) law (μ 1320 33) p g 0 0 = c p g := by rw [← hc]
        rw [ec]
        have xb := cb p g
        rw [zwl_id (by omega) (by omega)]
        have pb := zpr_bd (c := fun g => c p g) (fun g => cb p g) g
        have hb2 := zmulb (ab p).1 (ab p).2 pb.1 pb.2
        rw [← Int.pow_add] at hb2
        have lim : zalp c who G p * zpr (fun g => c p g) g * (100 - c p g) < zpw 16 := by
          have h3 := zmulb hb2.1 hb2.2 (show 0 ≤ 100 - c p g by omega) (show 100 - c p g ≤ 100 by omega)
          rw [← Int.pow_succ] at h3
          have h4 : p * G + g + 1 ≤ 60 := by
            have : (p + 1) * G ≤ m * G := Nat.mul_le_mul_right G (by omega)
            rw [Nat.succ_mul] at this
            omega
          have h5 := z120 (n := (p * G + g).succ) (by omega)
          have h6 := zpw_mono (m := 15) (n := 16) (by omega)
          omega
        refine k_M_times (c := 1333) (n := 16) (by omega) (by omega) (e.keep (t1 1333 (by decide) (by decide) (by decide))) (by omega) (by omega) lim (fun ν3 r1 r2 => ?_)
        rw [zw_of (by omega) (by omega)]
        refine ih (g + 1) (by omega) ν3 (fun b b0 b1 => ?_) (fun j j0 j1 j2 j3 => ?_) ?_
        · rw [r1 b (fun e => b1 (by rw [e]; decide)), t1 b b0 (fun e => b1 (by rw [e]; decide)) (fun e => b1 (by rw [e]; decide))]
          exact a b b0 b1
        · rw [r1 1320 (by decide), t2 j j0 j1 j2 j3]
          exact b j j0 j1 j2 j3
        · unfold zpr
          rw [← Int.mul_assoc]
          exact r2
      exact s_M_findAlone_23 ⟨fun c => absurd c (by omega), fun _ => ⟨fun _ => s39, fun ne => ⟨fun ne2 => absurd (hwp.resolve_left ne) ne2, fun _ => s39⟩⟩⟩
  have l12 : ∀ k p : Nat, p + k = m → ∀ ν : zM, (∀ b : Int, b ≠ 1320 → ¬ (1331 ≤ b ∧ b ≤ 1333) → ν b = μ b) → (∀ j : Int, j ≠ 24 → j ≠ 27 → j ≠ 28 → j ≠ 29 → ν 1320 j = μ 1320 j) → zRn ν 1333 16 (zalp c who G p) → zE X true l d 0 0 y_M_findAlone 12 [some (13, 0, 1320), some (0, 0, who), some (0, 0, (G : Int)), some (0, 0, (p : Int)), none] [] ν (zrn Q) := by
    intro k
    induction k with
    | zero =>
      intro p hp ν a b e
      obtain rfl : p = m := by omega
      obtain ⟨e22, e30, e31, e34, e33, eL⟩ := fr ν a b
      refine s_M_findAlone_12 (a0 := 1320) (d1 := 3) (by omega) ⟨fun _ => ?_, fun c => absurd (by omega) c⟩
      have ew : zw ((if ¬ who = -1 then (1 : Int) else ν 1320 31) * G) = ((h * G : Nat) : Int) := by
        rw [e31]
        rcases hw with ⟨w1, w2⟩ | ⟨w1, w2⟩
        · rw [if_neg (by omega), w2, ← Int.natCast_mul, zw_of (by omega) (by omega)]
        · rw [if_pos (by omega), w2, Int.one_mul, Nat.one_mul, zw_of (by omega) (by omega)]
      rw [ew]
      exact k_findWhole (by omega) hh (fun ν2 t1 t2 => k_M_turn (c := 1333) (c1 := 1334) (by omega) (by omega) (by decide) (e.keep (t1 1333 (by decide))) t2 hle (fun ν3 r1 r2 => hQ ν3 (fun b b0 b1 => by rw [r1 b (fun e => b1 (by rw [e]; decide)), t1 b (fun e => b1 (by rw [e]; decide))]; exact a b b0 (fun e => b1 ⟨e.1, by omega⟩)) (fun j j0 j1 j2 j3 => by rw [r1 1320 (by decide), t1 1320 (by decide)]; exact b j j0 j1 j2 j3) r2))
    | succ k ih =>
      intro p hp ν a b e
      obtain ⟨e22, e30, e31, e34, e33, eL⟩ := fr ν a b
      refine s_M_findAlone_12 (a0 := 1320) (d1 := 3) (by omega) ⟨fun c => absurd c (by omega), fun _ => ?_⟩
      by_cases hwp : who = -1 ∨ who = p
      · exact l23 p (by omega) (fun ν' w1 w2 w3 => ih (p + 1) (by omega) ν' w1 w2 w3) hwp G 0 (by omega) ν a b (by simpa [zpr] using e)
      · have sk : zE X true l d 0 0 y_M_findAlone 12 [some (13, 0, 1320), some (0, 0, who), some (0, 0, (G : Int)), some (0, 0, zw ((p : Int) + 1)), none] [] ν (zrn Q) := by
          rw [zw_of (by omega) (by omega)]
          refine ih (p + 1) (by omega) ν a b ?_
          unfold zalp
          rw [if_neg hwp, Int.mul_one]
          exact e
        exact s_M_findAlone_23 ⟨fun _ => sk, fun _ => ⟨fun e => absurd (Or.inl e) hwp, fun _ => ⟨fun _ => sk, fun e => absurd (Or.inr e) hwp⟩⟩⟩
  exact l12 m 0 (by omega) ν1 (fun b b0 b1 => n1 b (fun e => b1 (by rw [e]; decide))) (fun j _ _ _ _ => by rw [n1 1320 (by decide)]) n2
end

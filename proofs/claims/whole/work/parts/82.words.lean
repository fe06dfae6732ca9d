/-! words -/
def zWb (A : Int → Int) (x : Int) (N : Nat) (B : Int) : Prop := (B = -1 ∧ ∀ v : Nat, v < N → A v < x) ∨ (∃ b : Nat, B = b ∧ b < N ∧ ¬ A b < x ∧ ∀ v : Nat, v < N → ¬ A v < x → zpop b < zpop v ∨ (zpop b = zpop v ∧ b ≤ v))
theorem zWb.uniq {A : Int → Int} {x : Int} {N : Nat} {B C : Int} (h : zWb A x N B) (k : zWb A x N C) : B = C := by
  rcases h with ⟨rfl, h⟩ | ⟨b, rfl, b1, b2, b3⟩
  · rcases k with ⟨rfl, _⟩ | ⟨c, rfl, c1, c2, c3⟩
    · rfl
    · exact absurd (h c c1) c2
  · rcases k with ⟨rfl, k⟩ | ⟨c, rfl, c1, c2, c3⟩
    · exact absurd (k b b1) b2
    · have p := b3 c c1 c2
      have q := c3 b b1 b2
      omega
theorem zpop_le : ∀ m : Nat, m < 6 → ∀ v : Nat, v < 2 ^ m → zpop (v : Int) ≤ (m : Int) := by decide
theorem zMd_8 {ρ : Int → Int} {P m bs al p : Int} : zMd ρ P m bs al 8 p = if zand (zshr bs p) 1 = 1 then 0 else ρ (160 + 5 * P + p) := rfl
theorem zMd_o {ρ : Int → Int} {P m bs w al p : Int} {n : Nat} (hn : n ≠ 8) : zMd ρ P m w al n p = zMd ρ P m bs al n p := by
  unfold zMd
  split <;> first | rfl | exact absurd rfl hn
theorem zshl1 : ∀ m : Nat, m < 6 → zshl 1 (m : Int) = ((2 ^ m : Nat) : Int) := by decide +kernel
theorem zpow32 : ∀ m : Nat, m < 6 → 2 ^ m ≤ 32 ∧ 1 ≤ 2 ^ m := by decide
section
variable {X : zX} {l : Launch} {d : Nat} {μ : zM}
theorem k_askAlso {P m bs w : Int} {ρ : Int → Int} {Q : zM → Prop} (P0 : 0 ≤ P) (P1 : P < 6) (hC : zCd μ (zMd ρ P m w 0)) (ha : ∀ p : Int, 0 ≤ p → p < 5 → μ (28 + 6 * P) p = ρ (160 + 5 * P + p)) (hQ : ∀ ν, (∀ b : Int, b ≠ 112 → ν b = μ b) → zCd ν (zMd ρ P m bs 0) → Q ν) : zCv X true l d 0 0 y_Scene_askAlso [(10, 0, 106), (4, 0, 23 + 6 * P), (0, 0, bs)] μ Q := by
  have loop : ∀ k i : Nat, i + k = 5 → ∀ ν : zM, (∀ b : Int, b ≠ 112 → ν b = μ b) → (∀ p : Int, 0 ≤ p → p < i → ν 112 p = zMd ρ P m bs 0 8 p) → zE X true l d 0 0 y_Scene_askAlso 2 [some (10, 0, 106), some (4, 0, 23 + 6 * P), some (0, 0, bs), some (0, 0, (i : Int))] [] ν (zrn Q) := by
    intro k
    induction k with
    | zero =>
      intro i hi ν n1 n2
      obtain rfl : i = 5 := by omega
      refine s_Scene_askAlso_2 ⟨fun _ => hQ ν n1 ⟨fun p p0 p1 => ?_, fun g g0 g1 => ?_, ?_⟩, fun c => absurd (by decide) c⟩
      · obtain ⟨t0, t1, t2, t3, t4, t5, t6, t7, t8⟩ := hC.1 p p0 p1
        rw [n1 108 (by decide), n1 109 (by decide), n1 110 (by decide), n1 111 (by decide), n1 117 (by decide), n1 114 (by decide), n1 115 (by decide), n1 116 (by decide)]
        exact ⟨t0.trans (zMd_o (by decide)), t1.trans (zMd_o (by decide)), t2.trans (zMd_o (by decide)), t3.trans (zMd_o (by decide)), t4.trans (zMd_o (by decide)), t5.trans (zMd_o (by decide)), t6.trans (zMd_o (by decide)), t7.trans (zMd_o (by decide)), n2 p p0 (by omega)⟩
      · rw [n1 118 (by decide)]; exact (hC.2.1 g g0 g1).trans (zMd_o (by decide))
      · rw [n1 107 (by decide)]; exact hC.2.2.trans (zMd_o (by decide))
    | succ k ih =>
      intro i hi ν n1 n2
      refine s_Scene_askAlso_2 (a0 := 106) ⟨fun c => absurd c (by omega), fun _ => ⟨⟨fun _ => by omega, fun _ => trivial⟩, by omega, ?_⟩⟩
      simp only [Int.reduceAdd]
      rw [zw_of (by omega) (by omega)]
      refine ih (i + 1) (by omega) _ (fun b hb => (zup_ne hb).trans (n1 b hb)) (fun p p0 p1 => ?_)
      rw [zup_val, show (23 : Int) + 6 * P + 5 = 28 + 6 * P by omega, n1 (28 + 6 * P) (by omega)]
      split
      · rename_i e
        subst e
        rw [ha _ p0 (by omega), zMd_8]
        by_cases c : zand (zshr bs (i : Int)) 1 = 1
        · rw [if_neg (by omega), if_pos c]
        · rw [if_pos c, if_neg c]
      · exact n2 p p0 (by omega)
  exact c_Scene_askAlso (loop 5 0 rfl μ (fun _ _ => rfl) (fun p p0 p1 => by omega))
theorem zInv.asked (h : zInv zLR μ) {P p : Int} (P0 : 0 ≤ P) (P1 : P < 6) (p0 : 0 ≤ p) (p1 : p < 5) : μ (28 + 6 * P) p = μ 1322 (160 + 5 * P + p) := by
  obtain ⟨n, rfl⟩ : ∃ n : Nat, P = n := ⟨P.toNat, by omega⟩
  obtain ⟨k, rfl⟩ : ∃ k : Nat, p = k := ⟨p.toNat, by omega⟩
  have e := h.num _ (by omega) (zla_p1 n (by omega) k (by omega)).2.2.2.2 (by omega)
  refine Eq.trans ?_ (e.trans ?_) <;> congr 1 <;> omega
end
section
variable {X : zX} {l : Launch} {d : Nat} {μ : zM} {Q : Int → Int → zM → Prop}
theorem p_words {x : Int} (h : zInv zLR μ) (hd : 7 ≤ d) (hQ : ∀ v ρ, zInv zLR ρ → Q v v ρ) : zCi X true l d 0 0 y_S_words [(12, 0, 0), (0, 0, x)] μ (fun v ν => zCi X true l d 0 0 y_M_words [(13, 0, 1320), (0, 0, x)] ν (fun w ρ => Q v w ρ)) := by
  obtain ⟨u0, u1, u2⟩ := h.use
  obtain ⟨m0, m1, m2⟩ := h.many u1 u2
  obtain ⟨g0, g1, g2⟩ := h.long
  obtain ⟨f0, f1, f2, f3⟩ := h.force
  obtain ⟨law, hl⟩ := h.law (x := μ 1322 1) (by omega)
  have hl : zLk μ (μ 1322 1) law := hl
  have hB := h.2.2.2.2.2.2.2.2
  obtain ⟨m, hm⟩ : ∃ m : Nat, μ 1322 (10 + μ 1322 0) = m := ⟨(μ 1322 (10 + μ 1322 0)).toNat, by omega⟩
  obtain ⟨G, hG⟩ : ∃ G : Nat, μ 1322 2 = G := ⟨(μ 1322 2).toNat, by omega⟩
  rw [hm] at m0
  have n32 := zpow32 m (by omega)
  have ht := h.thrown zLR_ok
  generalize hA : (fun v : Int => zanyd (zMd (μ 1322) (μ 1322 0) m v 0) law (-1) m G) = A
  have hA' : ∀ v : Int, zanyd (zMd (μ 1322) (μ 1322 0) m v 0) law (-1) m G = A v := fun v => by rw [← hA]
  -- the reference
  have ref : ∀ (B : Int) (ν : zM), 0 ≤ x → x ≤ 1000000 → zCm μ ν → zWb A x (2 ^ m) B → zCi X true l d 0 0 y_M_words [(13, 0, 1320), (0, 0, x)] ν (fun w ρ => Q B w ρ) := by
    intro B ν x0 x1 cν hB'
    have loop : ∀ k i : Nat, i + k = 2 ^ m → ∀ (C : Int) (ν' : zM), zCm μ ν' → zWb A x i C → zE X true l d 0 0 y_M_words 39 [some (13, 0, 1320), some (0, 0, x), some (0, 0, C), some (0, 0, (m : Int)), some (0, 0, (i : Int))] [] ν' (zri (fun w ρ => Q B w ρ)) := by
      intro k
      induction k with
      | zero =>
        intro i hi C ν' c' hC
        obtain rfl : i = 2 ^ m := by omega
        refine s_M_words_39 (a0 := 1320) (d1 := 6) (by omega) ⟨fun _ => ?_, fun c => absurd (by rw [zshl1 m (by omega)]; omega) c⟩
        rw [hB'.uniq hC]
        exact hQ _ _ (h.cm c')
      | succ k ih =>
        intro i hi C ν' c' hC
        have er := c'.row
        -- reckon i
        have s64 : (∀ w : Int, w = (if A i < x then C else i) → zWb A x (i + 1) w) → zE X true l d 0 0 y_M_words 64 [some (13, 0, 1320), some (0, 0, x), some (0, 0, C), some (0, 0, (m : Int)), some (0, 0, (i : Int))] [] ν' (zri (fun w ρ => Q B w ρ)) := fun hw => by
          refine s_M_words_64 (a0 := 1320) (d1 := 6) (by omega) (k_lookAtUse (by omega) (by rw [er]; exact ⟨u1, u2⟩) ?_)
          rw [er]
          simp only [Int.reduceAdd]
          generalize hμ2 : zup (zup (zup (zup (zup (zup ν' 1320 30 (μ 1322 0)) 1320 31 (μ 1322 (10 + μ 1322 0))) 1320 32 (μ 1322 1)) 1320 33 (-1)) 1320 34 0) 1320 34 (i : Int) = μ2
          have q30 : μ2 1320 30 = μ 1322 0 := by rw [← hμ2]; simp [zup]
          have q31 : μ2 1320 31 = m := by rw [← hμ2, ← hm]; simp [zup]
          have q32 : μ2 1320 32 = μ 1322 1 := by rw [← hμ2]; simp [zup]
          have q33 : μ2 1320 33 = -1 := by rw [← hμ2]; simp [zup]
          have q34 : μ2 1320 34 = i := by rw [← hμ2]; simp [zup]
          have q0 : ∀ b : Int, b ≠ 1320 → μ2 b = ν' b := fun b hb => by rw [← hμ2, zup_ne hb, zup_ne hb, zup_ne hb, zup_ne hb, zup_ne hb, zup_ne hb]
          have qj : ∀ j : Int, j ≠ 30 → j ≠ 31 → j ≠ 32 → j ≠ 33 → j ≠ 34 → μ2 1320 j = ν' 1320 j := fun j j1 j2 j3 j4 j5 => by rw [← hμ2, zup_miss (by omega), zup_miss (by omega), zup_miss (by omega), zup_miss (by omega), zup_miss (by omega), zup_miss (by omega)]
          have r22 : μ2 1322 = μ 1322 := by rw [q0 _ (by decide), er]
          have e2 : μ2 1322 2 = G := by rw [r22]; exact hG
          rw [e2]
          refine k_findAny (law := law) (by omega) (by rw [r22]; exact h.rb) q30 u1 u2 q31 (by omega) q34 (hl.2 μ2 r22 q32) (by omega) (fun ν3 t1 t2 t3 t4 => ?_)
          rw [q33, r22] at t4
          have sb := zsty_bd (c := fun p g => zcha (zMd (μ 1322) (μ 1322 0) m i 0) law (-1) p g 0 0) (fun _ _ => zcha_bd) m G
          have e5 : ν3 1320 31 = m := by rw [t2 31 (by decide) (by decide) (by decide) (by decide)]; exact q31
          have e6 : ν3 1322 2 = G := by rw [t1 1322 (by decide) (by decide)]; exact e2
          have h60 := zmn (m := m) (G := G) (by omega) (by omega)
          rw [e5, e6, ← Int.natCast_mul, zw_of (by omega) (by omega)]
          refine k_M_millionths (by omega) (by omega) (by decide) h60 t4 (by rw [← zhun]; omega) (fun ν5 s1 => ?_)
          rw [zw_of (x := (i : Int) + 1) (by omega) (by omega)]
          have ev : (100 ^ (m * G) - zsty (fun p g => zcha (zMd (μ 1322) (μ 1322 0) m i 0) law (-1) p g 0 0) m G) * 10 ^ (6 - 2 * (m * G)) / 10 ^ (2 * (m * G) - 6) = A i := hA' i
          rw [ev]
          have c5 : zCm ν' ν5 := by
            refine ⟨fun b b0 b1 => ?_, ?_, fun b b0 b1 => ?_, fun b b0 b1 => ?_, ?_, ?_, (h.cm c').2.2.2.2.2.2.2.2.keep2 (fun b b0 b1 => ?_)⟩
            · rw [s1 b (by omega), t1 b (by omega) (by omega), q0 b (by omega)]
            · rw [s1 _ (by decide), t1 _ (by decide) (by decide), q0 _ (by decide)]
            · rw [s1 b (by omega), t1 b (by omega) (by omega), q0 b (by omega)]
            · rw [s1 b (by omega), t1 b (by omega) (by omega), q0 b (by omega)]
            · rw [s1 _ (by decide), t1 _ (by decide) (by decide), q0 _ (by decide)]
            · have ej : ∀ j : Int, j ≠ 24 → j ≠ 27 → j ≠ 28 → j ≠ 29 → j ≠ 30 → j ≠ 31 → j ≠ 32 → j ≠ 33 → j ≠ 34 → ν5 1320 j = ν' 1320 j := fun j j1 j2 j3 j4 j5 j6 j7 j8 j9 => by rw [s1 1320 (by decide), t2 j j1 j2 j3 j4, qj j j5 j6 j7 j8 j9]
              exact ⟨ej 1 (by decide) (by decide) (by decide) (by decide) (by decide) (by decide) (by decide) (by decide) (by decide), ej 7 (by decide) (by decide) (by decide) (by decide) (by decide) (by decide) (by decide) (by decide) (by decide), ej 12 (by decide) (by decide) (by decide) (by decide) (by decide) (by decide) (by decide) (by decide) (by decide), ej 45 (by decide) (by decide) (by decide) (by decide) (by decide) (by decide) (by decide) (by decide) (by decide)⟩
            · rw [s1 b (by omega), t1 b (by omega) (by omega), q0 b (by omega)]
          exact ih (i + 1) (by omega) _ ν5 (c'.trans c5) (hw _ rfl)
        refine s_M_words_39 (a0 := 1320) (d1 := 6) (by omega) ⟨fun c => absurd c (by rw [zshl1 m (by omega)]; omega), fun _ => ⟨fun e => s64 (fun w hw => ?_), fun e => ?_⟩⟩
        · rcases hC with ⟨_, hC⟩ | ⟨b, rfl, _⟩
          · by_cases q : A i < x
            · rw [if_pos q] at hw
              refine Or.inl ⟨by omega, fun v hv => ?_⟩
              by_cases e2 : v = i
              · rw [e2]; exact q
              · exact hC v (by omega)
            · rw [if_neg q] at hw
              refine Or.inr ⟨i, hw, by omega, q, fun v hv hv2 => ?_⟩
              by_cases e2 : v = i
              · rw [e2]; exact Or.inr ⟨rfl, Nat.le_refl _⟩
              · exact absurd (hC v (by omega)) hv2
          · omega
        · rcases hC with ⟨e1, hC⟩ | ⟨b, rfl, hb1, hb2, hb3⟩
          · exact absurd e1 e
          · refine k_M_bits (by omega) (by omega) (k_M_bits (by omega) (by omega) ⟨fun le => ?_, fun gt => s64 (fun w hw => ?_)⟩)
            · rw [zw_of (x := (i : Int) + 1) (by omega) (by omega)]
              refine ih (i + 1) (by omega) _ ν' c' (Or.inr ⟨b, rfl, by omega, hb2, fun v hv hv2 => ?_⟩)
              by_cases e2 : v = i
              · rw [e2]; omega
              · exact hb3 v (by omega) hv2
            · by_cases q : A i < x
              · rw [if_pos q] at hw
                refine Or.inr ⟨b, hw, by omega, hb2, fun v hv hv2 => ?_⟩
                by_cases e2 : v = i
                · rw [e2] at hv2; exact absurd q hv2
                · exact hb3 v (by omega) hv2
              · rw [if_neg q] at hw
                refine Or.inr ⟨i, hw, by omega, q, fun v hv hv2 => ?_⟩
                by_cases e2 : v = i
                · rw [e2]; exact Or.inr ⟨rfl, Nat.le_refl _⟩
                · have := hb3 v (by omega) hv2
                  omega
    have c2 := cν.trans (zCm.thrown (h.cm cν))
    have er := c2.row
    refine c_M_words (a0 := 1320) (d1 := 6) (by omega) (k_M_in (fun _ _ => ⟨fun _ => ?_, fun c => absurd c (by decide)⟩) (fun c => absurd ⟨x0, x1⟩ c))
    simp only [Int.reduceAdd]
    rw [er, zw_of (by omega) (by omega), hm]
    exact ⟨by omega, loop (2 ^ m) 0 (by omega) (-1) _ c2 (Or.inl ⟨rfl, fun v hv => by omega⟩)⟩
  refine c_S_words (a0 := 0) (d1 := 6) (by omega) (k_S_within (fun x0 x1 => ⟨fun _ => ?_, fun c => absurd c (by decide)⟩) (fun c => ⟨fun q => absurd rfl q, fun _ => ?_⟩))
  · refine k_lookAround (by omega) h (fun ν n1 n2 n3 n4 => k_S_planInUse (by omega) (by rw [n1 1 (by decide), u0]; exact ⟨u1, u2⟩) ?_)
    rw [n1 1 (by decide), u0]
    rw [hm] at n2
    -- the Scene, whoever is asked
    have l35 : ∀ (ff : Nat), ff ≤ m → (∀ v : Nat, v < 2 ^ m → zpop v < ff → A v < x) → (∀ ν' : zM, zCm μ ν' → (∃ w : Int, zCd ν' (zMd (μ 1322) (μ 1322 0) m w 0)) → ν' 106 4 = ν 106 4 → ν' 106 5 = -1 → (∀ v : Nat, v < 2 ^ m → zpop v < ((ff + 1 : Nat) : Int) → A v < x) → zE X true l d 0 0 y_S_words 24 [some (12, 0, 0), some (0, 0, x), some (4, 0, 23 + 6 * μ 1322 0), some (0, 0, ((ff + 1 : Nat) : Int)), none] [] ν' (zri (fun v ν => zCi X true l d 0 0 y_M_words [(13, 0, 1320), (0, 0, x)] ν (fun w ρ => Q v w ρ)))) → ∀ k i : Nat, i + k = 2 ^ m → ∀ ν' : zM, zCm μ ν' → (∃ w : Int, zCd ν' (zMd (μ 1322) (μ 1322 0) m w 0)) → ν' 106 4 = ν 106 4 → ν' 106 5 = -1 → (∀ v : Nat, v < i → zpop v = ff → A v < x) → zE X true l d 0 0 y_S_words 35 [some (12, 0, 0), some (0, 0, x), some (4, 0, 23 + 6 * μ 1322 0), some (0, 0, (ff : Int)), some (0, 0, (i : Int))] [] ν' (zri (fun v ν => zCi X true l d 0 0 y_M_words [(13, 0, 1320), (0, 0, x)] ν (fun w ρ => Q v w ρ))) := by
      intro ff hff low kk k
      induction k with
      | zero =>
        intro i hi ν' c' hw q4 q5 hlow
        obtain rfl : i = 2 ^ m := by omega
        have em : ν' (23 + 6 * μ 1322 0) 0 = m := by rw [c'.1 _ (by omega) (by omega)]; exact m0
        refine s_S_words_35 (a0 := 0) (d1 := 6) (by omega) ?_
        rw [em, zshl1 m (by omega), zw_of (by omega) (by omega)]
        refine ⟨fun _ => kk ν' c' hw q4 q5 (fun v hv hv2 => ?_), fun c => absurd (by omega) c⟩
        by_cases e : zpop v = ff
        · exact hlow v hv e
        · exact low v hv (by omega)
      | succ k ih =>
        intro i hi ν' c' hw q4 q5 hlow
        have em : ν' (23 + 6 * μ 1322 0) 0 = m := by rw [c'.1 _ (by omega) (by omega)]; exact m0
        refine s_S_words_35 (a0 := 0) (d1 := 6) (by omega) ?_
        rw [em, zshl1 m (by omega), zw_of (x := (i : Int) + 1) (by omega) (by omega)]
        refine ⟨fun c => absurd c (by omega), fun _ => k_bitCount (by omega) (by omega) ⟨fun e => ?_, fun e => ?_⟩⟩
        · obtain ⟨w, hw⟩ := hw
          refine k_askAlso (bs := (i : Int)) u1 u2 hw (fun p p0 p1 => by rw [c'.1 _ (by omega) (by omega)]; exact h.asked u1 u2 p0 p1) (fun ν2 t1 t2 => ?_)
          simp only [Int.reduceAdd]
          have e4 : ν2 1 4 = G := by rw [t1 1 (by decide), c'.1 1 (by decide) (by decide), g0]; exact hG
          have e106 : ν2 106 = ν' 106 := t1 106 (by decide)
          rw [e4]
          refine k_any (m := m) (by omega) (by omega) t2 (zMd_db h.rb u1 u2 (by omega) (by omega)) (hl.1 ν2 (fun b b0 b1 => by rw [t1 b (by omega)]; exact c'.1 b b0 b1) (by rw [e106, q4]; exact n3)) rfl (by omega) (c'.2.2.2.2.2.2.keep2 (fun b b0 b1 => t1 b (by omega))) (fun ν3 r1 r2 => ?_)
          rw [e106, q5]
          have e3 : ∀ b : Int, b ≠ 105 → b ≠ 112 → ¬ (119 ≤ b ∧ b ≤ 120) → ¬ (126 ≤ b ∧ b ≤ 131) → ν3 b = ν' b := fun b b0 b1 b2 b3 => by rw [r1 b b0 b2 b3, t1 b b1]
          have c3 : zCm ν' ν3 := ⟨fun b b0 b1 => e3 b (by omega) (by omega) (by omega) (by omega), e3 _ (by decide) (by decide) (by decide) (by decide), fun b b0 b1 => e3 b (by omega) (by omega) (by omega) (by omega), fun b b0 b1 => e3 b (by omega) (by omega) (by omega) (by omega), e3 _ (by decide) (by decide) (by decide) (by decide), by rw [e3 1320 (by decide) (by decide) (by decide) (by decide)]; exact ⟨rfl, rfl, rfl, rfl⟩, r2⟩
          have ev : zmil (100 ^ (m * G) - zsty (fun p g => zcha (zMd (μ 1322) (μ 1322 0) m i 0) law (-1) p g 0 0) m G) (m * G) = A i := hA' i
          rw [ev]
          refine ⟨fun lt => ih (i + 1) (by omega) ν3 (c'.trans c3) ⟨i, t2.keep (fun b b0 b1 => r1 b (by omega) (by omega) (by omega))⟩ (by rw [e3 106 (by decide) (by decide) (by decide) (by decide)]; exact q4) (by rw [e3 106 (by decide) (by decide) (by decide) (by decide)]; exact q5) (fun v hv hv2 => ?_), fun nlt => ref _ _ x0 x1 (c'.trans c3) (Or.inr ⟨i, rfl, by omega, nlt, fun v hv hv2 => ?_⟩)⟩
          · by_cases e2 : v = i
            · rw [e2]; exact lt
            · exact hlow v (by omega) hv2
          · have a1 : ¬ zpop v < ff := fun q => hv2 (low v hv q)
            by_cases e2 : zpop v = ff
            · have a2 : ¬ v < i := fun q => hv2 (hlow v q e2)
              omega
            · omega
        · refine ih (i + 1) (by omega) ν' c' hw q4 q5 (fun v hv hv2 => ?_)
          by_cases e2 : v = i
          · rw [e2] at hv2; exact absurd hv2 e
          · exact hlow v (by omega) hv2
    have l24 : ∀ k ff : Nat, ff + k = m + 1 → ∀ ν' : zM, zCm μ ν' → (∃ w : Int, zCd ν' (zMd (μ 1322) (μ 1322 0) m w 0)) → ν' 106 4 = ν 106 4 → ν' 106 5 = -1 → (∀ v : Nat, v < 2 ^ m → zpop v < (ff : Int) → A v < x) → zE X true l d 0 0 y_S_words 24 [some (12, 0, 0), some (0, 0, x), some (4, 0, 23 + 6 * μ 1322 0), some (0, 0, (ff : Int)), none] [] ν' (zri (fun v ν => zCi X true l d 0 0 y_M_words [(13, 0, 1320), (0, 0, x)] ν (fun w ρ => Q v w ρ))) := by
      intro k
      induction k with
      | zero =>
        intro ff hf ν' c' hw q4 q5 low
        have em : ν' (23 + 6 * μ 1322 0) 0 = m := by rw [c'.1 _ (by omega) (by omega)]; exact m0
        refine s_S_words_24 ⟨fun _ => ref _ _ x0 x1 c' (Or.inl ⟨rfl, fun v hv => low v hv (by have := zpop_le m (by omega) v hv; omega)⟩), fun c => absurd (by omega) c⟩
      | succ k ih =>
        intro ff hf ν' c' hw q4 q5 low
        have em : ν' (23 + 6 * μ 1322 0) 0 = m := by rw [c'.1 _ (by omega) (by omega)]; exact m0
        exact s_S_words_24 ⟨fun c => absurd c (by omega), fun _ => l35 ff (by omega) low (fun ν2 a b c e f => ih (ff + 1) (by omega) ν2 a b c e f) (2 ^ m) 0 (by omega) ν' c' hw q4 q5 (fun v hv => by omega)⟩
    refine l24 (m + 1) 0 (by omega) ν ⟨fun b b0 b1 => n1 b (by omega), n1 _ (by decide), fun b b0 b1 => n1 b (by omega), fun b b0 b1 => n1 b (by omega), n1 _ (by decide), by rw [n1 1320 (by decide)]; exact ⟨rfl, rfl, rfl, rfl⟩, hB.keep2 (fun b b0 b1 => n1 b (by omega))⟩ ⟨0, n2⟩ rfl n4 (fun v hv hv2 => ?_)
    have := zpop_bd' (x := (v : Int)) (by omega) (by omega)
    omega
  · exact c_M_words (a0 := 1320) (d1 := 6) (by omega) (k_M_in (fun a b => absurd ⟨a, b⟩ c) (fun _ => ⟨fun q => absurd rfl q, fun _ => hQ _ _ ht⟩))
end

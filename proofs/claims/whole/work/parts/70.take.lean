/-! Scene.take -/
section
variable {X : zX} {l : Launch} {d : Nat} {μ : zM}
theorem k_Plan_copy {a b : Int} {Q : zM → Prop} (hab : a + 6 ≤ b ∨ b + 6 ≤ a) (hQ : ∀ ν, (∀ c : Int, ¬ (a ≤ c ∧ c < a + 6) → ν c = μ c) → ν a 0 = μ b 0 → (∀ k i : Int, 1 ≤ k → k ≤ 5 → 0 ≤ i → i < 5 → ν (a + k) i = μ (b + k) i) → Q ν) : zCv X true l d 0 0 y_Plan_become [(4, 0, a), (4, 0, b)] μ Q := by
  have loop : ∀ m i : Nat, i + m = 5 → ∀ ν : zM, (∀ c : Int, ¬ (a ≤ c ∧ c < a + 6) → ν c = μ c) → ν a 0 = μ b 0 → (∀ k j : Int, 1 ≤ k → k ≤ 5 → 0 ≤ j → j < i → ν (a + k) j = μ (b + k) j) → zE X true l d 0 0 y_Plan_become 10 [some (4, 0, a), some (4, 0, b), some (0, 0, (i : Int))] [] ν (zrn Q) := by
    intro m
    induction m with
    | zero =>
      intro i hi ν n1 n2 n3
      obtain rfl : i = 5 := by omega
      exact s_Plan_become_10 ⟨fun _ => hQ ν n1 n2 n3, fun c => absurd (by decide) c⟩
    | succ m ih =>
      intro i hi ν n1 n2 n3
      have hb : (0 : Int) ≤ i ∧ (i : Int) < 5 := by omega
      refine s_Plan_become_10 ⟨fun c => absurd c (by omega), fun _ => ⟨hb, hb, hb, hb, hb, hb, hb, hb, hb, hb, ?_⟩⟩
      rw [zw_of (by omega) (by omega)]
      refine ih (i + 1) (by omega) _ (fun c hc => ?_) ?_ (fun k j k0 k1 j0 j1 => ?_)
      · rw [zup_ne (by omega), zup_ne (by omega), zup_ne (by omega), zup_ne (by omega), zup_ne (by omega)]
        exact n1 c hc
      · rw [zup_ne (by omega), zup_ne (by omega), zup_ne (by omega), zup_ne (by omega), zup_ne (by omega)]
        exact n2
      · have hk : k = 1 ∨ k = 2 ∨ k = 3 ∨ k = 4 ∨ k = 5 := by omega
        rcases hk with rfl | rfl | rfl | rfl | rfl
        · rw [zup_ne (by omega), zup_ne (by omega), zup_ne (by omega), zup_ne (by omega), zup_val]
          split
          · rename_i e
            subst e
            rw [n1 _ (by omega)]
          · exact n3 1 j (by decide) (by decide) j0 (by omega)
        · rw [zup_ne (by omega), zup_ne (by omega), zup_ne (by omega), zup_val]
          split
          · rename_i e
            subst e
            rw [zup_ne (by omega), n1 _ (by omega)]
          · rw [zup_ne (by omega)]
            exact n3 2 j (by decide) (by decide) j0 (by omega)
        · rw [zup_ne (by omega), zup_ne (by omega), zup_val]
          split
          · rename_i e
            subst e
            rw [zup_ne (by omega), zup_ne (by omega), n1 _ (by omega)]
          · rw [zup_ne (by omega), zup_ne (by omega)]
            exact n3 3 j (by decide) (by decide) j0 (by omega)
        · rw [zup_ne (by omega), zup_val]
          split
          · rename_i e
            subst e
            rw [zup_ne (by omega), zup_ne (by omega), zup_ne (by omega), n1 _ (by omega)]
          · rw [zup_ne (by omega), zup_ne (by omega), zup_ne (by omega)]
            exact n3 4 j (by decide) (by decide) j0 (by omega)
        · rw [zup_val]
          split
          · rename_i e
            subst e
            rw [zup_ne (by omega), zup_ne (by omega), zup_ne (by omega), zup_ne (by omega), n1 _ (by omega)]
          · rw [zup_ne (by omega), zup_ne (by omega), zup_ne (by omega), zup_ne (by omega)]
            exact n3 5 j (by decide) (by decide) j0 (by omega)
  exact c_Plan_become (loop 5 0 rfl _ (fun c hc => zup_ne (by omega)) zup_hit (fun k j _ _ j0 j1 => by omega))
end
theorem zla_p1 : ∀ P, P < 6 → ∀ p, p < 5 → zla (40 + 10 * P + 2 * p) = (23 + 6 * P, p) ∧ zla (41 + 10 * P + 2 * p) = (24 + 6 * P, p) ∧ zla (100 + 10 * P + p) = (25 + 6 * P, p) ∧ zla (105 + 10 * P + p) = (26 + 6 * P, p) ∧ zla (160 + 5 * P + p) = (27 + 6 * P, p) := by decide +kernel
theorem zla_p2 : ∀ p, p < 5 → zla (20 + 3 * p) = (3, p) ∧ zla (21 + 3 * p) = (4, p) ∧ zla (22 + 3 * p) = (5, p) ∧ zla (190 + p) = (6, p) := by decide +kernel
theorem zla_p3 : ∀ g, g < 12 → zla (200 + g) = (7, g) := by decide +kernel
theorem zla_p4 : ∀ P, P < 6 → zla (10 + P) = (22 + 6 * P, 0) := by decide +kernel
theorem zshr0 : ∀ p : Nat, p < 5 → zand (zshr 0 (p : Int)) 1 = 0 := by decide +kernel
section
variable {X : zX} {l : Launch} {d : Nat} {μ : zM} {LR : zM → Int → (Int → Int) → Prop}
theorem k_take {P x : Int} {Q : zM → Prop} (hd : 1 ≤ d) (h : zInv LR μ) (P0 : 0 ≤ P) (P1 : P < 6) (hx : x = -1 ∨ (0 ≤ x ∧ x < 4)) (hQ : ∀ ν, (∀ b : Int, ¬ (106 ≤ b ∧ b ≤ 118) → ν b = μ b) → (∀ j : Int, j ≠ 4 → j ≠ 5 → ν 106 j = μ 106 j) → zCd ν (zMd (μ 1322) P (μ 1322 (10 + P)) 0 0) → ν 106 4 = (if x = -1 then -1 else 59 + 7 * x) → ν 106 5 = -1 → Q ν) : zCv X true l d 0 0 y_Scene_take [(10, 0, 106), (7, 0, 1), (0, 0, P), (0, 0, x)] μ Q := by
  refine c_Scene_take (a0 := 106) (a1 := 1) (d1 := 0) (by omega) (k_S_isPlan (fun _ _ => ?_) (fun c => absurd ⟨P0, P1⟩ c))
  rw [if_neg (by decide)]
  refine ⟨⟨P0, P1⟩, k_Plan_copy (by omega) fun ν (n1 : ∀ c : Int, ¬ (107 ≤ c ∧ c < 113) → ν c = μ c) (n2 : ν 107 0 = _) n3 => ?_⟩
  have n3' : ∀ k i : Int, 1 ≤ k → k ≤ 5 → 0 ≤ i → i < 5 → ν (107 + k) i = μ (23 + 6 * P + k) i := fun k i k0 k1 i0 i1 => by
    have := n3 k i k0 k1 i0 i1
    rw [show (1 : Int) + 1 + 21 + 6 * P + k = 23 + 6 * P + k by omega] at this
    exact this
  rw [show (1 : Int) + 1 + 21 + 6 * P = 23 + 6 * P by omega] at n2
  obtain ⟨PN, rfl⟩ : ∃ n : Nat, P = n := ⟨P.toNat, by omega⟩
  have l110 : ∀ m i : Nat, i + m = 12 → ∀ ν' : zM, (∀ b : Int, ¬ (114 ≤ b ∧ b ≤ 118) → ν' b = ν b) → (∀ p : Int, 0 ≤ p → p < 5 → ν' 114 p = μ 4 p ∧ ν' 115 p = μ 5 p ∧ ν' 116 p = μ 6 p ∧ ν' 117 p = μ 7 p) → (∀ g : Int, 0 ≤ g → g < i → ν' 118 g = μ 8 g) → zE X true l d 0 0 y_Scene_take 110 [some (10, 0, 106), some (7, 0, 1), none, some (0, 0, x), some (0, 0, (i : Int))] [] ν' (zrn Q) := by
    intro m
    induction m with
    | zero =>
      intro i hi ν' m1 m2 m3
      obtain rfl : i = 12 := by omega
      have fin : ∀ w : Int, w = (if x = -1 then -1 else 59 + 7 * x) → Q (zup (zup ν' 106 4 w) 106 5 (-1)) := fun w hw => by
        have e : ∀ b : Int, b ≠ 106 → zup (zup ν' 106 4 w) 106 5 (-1) b = ν' b := fun b hb => by rw [zup_ne hb, zup_ne hb]
        refine hQ _ (fun b hb => ?_) (fun j j0 j1 => ?_) ⟨fun p p0 p1 => ?_, fun g g0 g1 => ?_, ?_⟩ ?_ zup_hit
        · rw [e b (by omega), m1 b (by omega), n1 b (by omega)]
        · rw [zup_miss (by omega), zup_miss (by omega), m1 _ (by omega), n1 _ (by omega)]
        · obtain ⟨pn, rfl⟩ : ∃ n : Nat, p = n := ⟨p.toNat, by omega⟩
          obtain ⟨t1, t2, t3, t4⟩ := m2 pn p0 p1
          obtain ⟨u1, u2, u3, u4, u5⟩ := zla_p1 PN (by omega) pn (by omega)
          obtain ⟨v1, v2, v3, v4⟩ := zla_p2 pn (by omega)
          have q1 := n3' 1 pn (by decide) (by decide) p0 p1
          have q2 := n3' 2 pn (by decide) (by decide) p0 p1
          have q3 := n3' 3 pn (by decide) (by decide) p0 p1
          have q4 := n3' 4 pn (by decide) (by decide) p0 p1
          have q5 := n3' 5 pn (by decide) (by decide) p0 p1
          have k1 := h.num _ (by omega) u1 (by omega)
          have k2 := h.num _ (by omega) u2 (by omega)
          have k3 := h.num _ (by omega) u3 (by omega)
          have k4 := h.num _ (by omega) u4 (by omega)
          have k5 := h.num _ (by omega) u5 (by omega)
          have k6 := h.num _ (by omega) v1 (by omega)
          have k7 := h.num _ (by omega) v2 (by omega)
          have k8 := h.num _ (by omega) v3 (by omega)
          have k9 := h.num _ (by omega) v4 (by omega)
          have z0 := zshr0 pn (by omega)
          simp only [e _ (show (108 : Int) ≠ 106 by decide), e _ (show (109 : Int) ≠ 106 by decide), e _ (show (110 : Int) ≠ 106 by decide), e _ (show (111 : Int) ≠ 106 by decide), e _ (show (112 : Int) ≠ 106 by decide), e _ (show (114 : Int) ≠ 106 by decide), e _ (show (115 : Int) ≠ 106 by decide), e _ (show (116 : Int) ≠ 106 by decide), e _ (show (117 : Int) ≠ 106 by decide), t1, t2, t3, t4, m1 108 (by decide), m1 109 (by decide), m1 110 (by decide), m1 111 (by decide), m1 112 (by decide)]
          simp only [zMd, z0, ite_true]
          refine ⟨?_, ?_, ?_, ?_, ?_, ?_, ?_, ?_, ?_⟩
          · rw [show (108 : Int) = 107 + 1 by decide, q1]
            refine Eq.trans ?_ (k1.trans ?_) <;> congr 1 <;> omega
          · rw [show (109 : Int) = 107 + 2 by decide, q2]
            refine Eq.trans ?_ (k2.trans ?_) <;> congr 1 <;> omega
          · rw [show (110 : Int) = 107 + 3 by decide, q3]
            refine Eq.trans ?_ (k3.trans ?_) <;> congr 1 <;> omega
          · rw [show (111 : Int) = 107 + 4 by decide, q4]
            refine Eq.trans ?_ (k4.trans ?_) <;> congr 1 <;> omega
          · exact k9.trans (by congr 1)
          · exact k6.trans (by congr 1)
          · exact k7.trans (by congr 1)
          · exact k8.trans (by congr 1)
          · rw [if_neg (by decide), show (112 : Int) = 107 + 5 by decide, q5]
            refine Eq.trans ?_ (k5.trans ?_) <;> congr 1 <;> omega
        · obtain ⟨gn, rfl⟩ : ∃ n : Nat, g = n := ⟨g.toNat, by omega⟩
          rw [e _ (by decide), m3 gn g0 (by omega)]
          exact (h.num _ (by omega) (zla_p3 gn (by omega)) (by decide)).trans (by show μ 1322 _ = μ 1322 _; congr 1)
        · rw [e _ (by decide), m1 _ (by decide), n2]
          refine Eq.trans ?_ ((h.num _ (by omega) (zla_p4 PN (by omega)) (by omega)).trans ?_)
          · congr 1; omega
          · show μ 1322 _ = μ 1322 _; congr 1
        · rw [zup_miss (by decide), zup_hit]; exact hw
      refine s_Scene_take_110 ⟨fun _ => ⟨fun c => ?_, fun c => ⟨fun c2 => absurd c2 (by omega), fun c2 => ⟨by omega, ?_⟩⟩⟩, fun c => absurd (by decide) c⟩
      · exact fin (-1) (by rw [if_pos (by omega)])
      · exact fin _ (by rw [if_neg (by omega)]; omega)
    | succ m ih =>
      intro i hi ν' m1 m2 m3
      refine s_Scene_take_110 ⟨fun c => absurd c (by omega), fun _ => ⟨by omega, by omega, ?_⟩⟩
      rw [zw_of (by omega) (by omega)]
      refine ih (i + 1) (by omega) _ (fun b hb => (zup_ne (by omega)).trans (m1 b hb)) (fun p p0 p1 => ?_) (fun g g0 g1 => ?_)
      · rw [zup_ne (by decide), zup_ne (by decide), zup_ne (by decide), zup_ne (by decide)]
        exact m2 p p0 p1
      · show zup ν' 118 i (ν' 8 i) 118 g = _
        rw [zup_val, m1 8 (by decide), n1 8 (by decide)]
        split
        · rename_i e; rw [e]
        · exact m3 g g0 (by omega)
  have l27 : ∀ m i : Nat, i + m = 5 → ∀ ν' : zM, (∀ b : Int, ¬ (114 ≤ b ∧ b ≤ 117) → ν' b = ν b) → (∀ p : Int, 0 ≤ p → p < i → ν' 114 p = μ 4 p ∧ ν' 115 p = μ 5 p ∧ ν' 116 p = μ 6 p ∧ ν' 117 p = μ 7 p) → zE X true l d 0 0 y_Scene_take 27 [some (10, 0, 106), some (7, 0, 1), none, some (0, 0, x), some (0, 0, (i : Int))] [] ν' (zrn Q) := by
    intro m
    induction m with
    | zero =>
      intro i hi ν' m1 m2
      obtain rfl : i = 5 := by omega
      exact s_Scene_take_27 ⟨fun _ => l110 12 0 rfl ν' (fun b hb => m1 b (by omega)) m2 (fun g g0 g1 => by omega), fun c => absurd (by decide) c⟩
    | succ m ih =>
      intro i hi ν' m1 m2
      have hb : (0 : Int) ≤ i ∧ (i : Int) < 5 := by omega
      refine s_Scene_take_27 (a0 := 106) (a1 := 1) ⟨fun c => absurd c (by omega), fun _ => ⟨hb, hb, hb, hb, hb, hb, hb, hb, ?_⟩⟩
      simp only [Int.reduceAdd, Int.reduceMul, zup_ne (show (4 : Int) ≠ 114 by decide), zup_ne (show (5 : Int) ≠ 114 by decide), zup_ne (show (5 : Int) ≠ 115 by decide), zup_ne (show (6 : Int) ≠ 114 by decide), zup_ne (show (6 : Int) ≠ 115 by decide), zup_ne (show (6 : Int) ≠ 116 by decide), zup_ne (show (7 : Int) ≠ 114 by decide), zup_ne (show (7 : Int) ≠ 115 by decide), zup_ne (show (7 : Int) ≠ 116 by decide), zup_ne (show (7 : Int) ≠ 117 by decide)]
      rw [zw_of (by omega) (by omega)]
      have r4 : ν' 4 = μ 4 := by rw [m1 4 (by decide), n1 4 (by decide)]
      have r5 : ν' 5 = μ 5 := by rw [m1 5 (by decide), n1 5 (by decide)]
      have r6 : ν' 6 = μ 6 := by rw [m1 6 (by decide), n1 6 (by decide)]
      have r7 : ν' 7 = μ 7 := by rw [m1 7 (by decide), n1 7 (by decide)]
      refine ih (i + 1) (by omega) _ (fun b hb => ?_) (fun p p0 p1 => ?_)
      · rw [zup_ne (by omega), zup_ne (by omega), zup_ne (by omega), zup_ne (by omega)]
        exact m1 b hb
      · rw [zup_ne (show (114 : Int) ≠ 117 by decide), zup_ne (show (114 : Int) ≠ 116 by decide), zup_ne (show (114 : Int) ≠ 115 by decide), zup_ne (show (115 : Int) ≠ 117 by decide), zup_ne (show (115 : Int) ≠ 116 by decide), zup_ne (show (116 : Int) ≠ 117 by decide), zup_val, zup_val, zup_val, zup_val, r4, r5, r6, r7, zup_ne (show (115 : Int) ≠ 114 by decide), zup_ne (show (116 : Int) ≠ 115 by decide), zup_ne (show (116 : Int) ≠ 114 by decide), zup_ne (show (117 : Int) ≠ 116 by decide), zup_ne (show (117 : Int) ≠ 115 by decide), zup_ne (show (117 : Int) ≠ 114 by decide)]
        by_cases e : p = i
        · rw [if_pos e, if_pos e, if_pos e, if_pos e, e]
          exact ⟨rfl, rfl, rfl, rfl⟩
        · rw [if_neg e, if_neg e, if_neg e, if_neg e]
          exact m2 p p0 (by omega)
  exact l27 5 0 rfl ν (fun _ _ => rfl) (fun p p0 p1 => by omega)
end

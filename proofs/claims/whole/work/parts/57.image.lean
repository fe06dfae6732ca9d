/-! image, back -/
theorem zup_val {μ : zM} {a i v j : Int} : zup μ a i v a j = if j = i then v else μ a j := by
  unfold zup
  simp
theorem zRB.congr {ρ σ : Int → Int} (h : zRB ρ) (e : ∀ i : Int, 0 ≤ i → i < 480 → σ i = ρ i) : zRB σ := by
  obtain ⟨h0, h1, h2, h3, h4, h5, h6, h7, h8, h9, h10, h11, h12, h13, h14, h15, h16, h17⟩ := h
  unfold zRB
  rw [e 0 (by decide) (by decide), e 1 (by decide) (by decide), e 2 (by decide) (by decide), e 3 (by decide) (by decide), e 4 (by decide) (by decide), e 5 (by decide) (by decide), e 6 (by decide) (by decide)]
  refine ⟨h0, h1, h2, h3, h4, h5, h6, fun i a b => ?_, fun i a b => ?_, fun i a b => ?_, fun i a b => ?_, fun i a b => ?_, fun i a b => ?_, fun i a b => ?_, fun i a b => ?_, fun i a b => ?_, fun i a b => ?_, fun i a b => ?_⟩ <;> rw [e i (by omega) (by omega)]
  · exact h7 i a b
  · exact h8 i a b
  · exact h9 i a b
  · exact h10 i a b
  · exact h11 i a b
  · exact h12 i a b
  · exact h13 i a b
  · exact h14 i a b
  · exact h15 i a b
  · exact h16 i a b
  · exact h17 i a b
section
variable {LR : zM → Int → (Int → Int) → Prop} {μ : zM} {X : zX} {l : Launch} {d : Nat} {Q : Int → Int → zM → Prop}
theorem zRoom.row (hL : zLRok LR) {r : Int} {ρ σ : Int → Int} (h : zRoom LR μ r ρ) (e : ∀ i : Int, 0 ≤ i → i < 4080 → σ i = ρ i) : zRoom LR μ r σ := by
  obtain ⟨h1, h2, h3, h4⟩ := h
  have r3 := h2.2.2.2.1
  have e3 := e 3 (by decide) (by decide)
  refine ⟨fun i hi hu => ?_, h2.congr (fun i a b => e i a (by omega)), fun n a b => ?_, h4⟩
  · have := zvl_lt hi
    rw [e i (by omega) (by omega)]
    refine h1 i hi ?_
    unfold zU at hu ⊢
    rw [e3, e 4 (by decide) (by decide), e 5 (by decide) (by decide), e 6 (by decide) (by decide)] at hu
    exact hu
  · rw [e3] at b
    exact hL.2.1 _ _ _ _ (fun i q1 q2 => e _ (by omega) (by omega)) (h3 n a b)
theorem zInv.image (hL : zLRok LR) (h : zInv LR μ) {x : Int} (hx : x = 0 ∨ x = 1) {ν5 ν : zM} (k : zRoom LR ν5 (1148 + 86 * x) (μ 1322)) (k5 : ∀ c : Int, ¬ (1148 + 86 * x ≤ c ∧ c < 1148 + 86 * x + 86) → ν5 c = μ c) (g : ∀ c : Int, c ≠ 0 → c ≠ 88 → c ≠ 1320 → c ≠ 1323 → c ≠ 1324 → ν c = ν5 c) (g0 : ∀ j : Int, j ≠ 10 → ν 0 j = μ 0 j) (g1 : ∀ j : Int, j ≠ 0 → j ≠ 1 → ν 1320 j = μ 1320 j) (g2 : ν 0 10 = ν 1320 1) (g3 : ∀ j : Int, ν 88 j = if j = x then 1 else μ 88 j) (g4 : ∀ j : Int, ν 1324 j = if j = x then 1 else μ 1324 j) (g5 : ∀ j : Int, ν 1323 j = if 4080 * x ≤ j ∧ j < 4080 * x + 4080 then μ 1322 (j - 4080 * x) else μ 1323 j) : zInv LR ν := by
  have f : ∀ c : Int, ¬ (1148 + 86 * x ≤ c ∧ c < 1148 + 86 * x + 86) → c ≠ 0 → c ≠ 88 → c ≠ 1320 → c ≠ 1323 → c ≠ 1324 → ν c = μ c := fun c q q1 q2 q3 q4 q5 => (g c q1 q2 q3 q4 q5).trans (k5 c q)
  obtain ⟨a1, a2, a3, a4, a5, a6, a7, a8, a9, a10⟩ := h
  refine ⟨by rw [g0 4 (by decide), g1 7 (by decide) (by decide)]; exact a1, ?_, by rw [g0 6 (by decide), g1 12 (by decide) (by decide)]; exact a3, g2, ?_, ?_, fun q hq => ?_, ?_, a9.keep (fun b q1 q2 => f b (by omega) (by omega) (by omega) (by omega) (by omega) (by omega)), fun q hq => ?_⟩
  · rw [f 89 (by omega) (by decide) (by decide) (by decide) (by decide) (by decide), f 1325 (by omega) (by decide) (by decide) (by decide) (by decide) (by decide)]; exact a2
  · rw [f 103 (by omega) (by decide) (by decide) (by decide) (by decide) (by decide), f 1321 (by omega) (by decide) (by decide) (by decide) (by decide) (by decide)]; exact a5
  · rw [f 1322 (by omega) (by decide) (by decide) (by decide) (by decide) (by decide)]
    exact a6.keep hL (fun b q1 q2 => f b (by omega) (by omega) (by omega) (by omega) (by omega) (by omega))
  · by_cases e : q = x
    · subst e
      rw [g3, g4, if_pos rfl, if_pos rfl]
      refine ⟨rfl, Or.inr rfl, fun _ => ?_⟩
      refine (k.keep hL (fun b q1 q2 => g b (by omega) (by omega) (by omega) (by omega) (by omega))).row hL (fun i i0 i1 => ?_)
      show ν 1323 (4080 * q + i) = _
      rw [g5, if_pos (by omega)]
      congr 1
      omega
    · rw [g3, g4, if_neg e, if_neg e]
      obtain ⟨b1, b2, b3⟩ := a7 q hq
      refine ⟨b1, b2, fun b => ?_⟩
      refine ((b3 b).keep hL (fun c q1 q2 => f c (by omega) (by omega) (by omega) (by omega) (by omega) (by omega))).row hL (fun i i0 i1 => ?_)
      show ν 1323 (4080 * q + i) = _
      rw [g5, if_neg (by omega)]
  · rw [f 100 (by omega) (by decide) (by decide) (by decide) (by decide) (by decide), f 1342 (by omega) (by decide) (by decide) (by decide) (by decide) (by decide), g1 45 (by decide) (by decide)]; exact a8
  · by_cases e : q = x
    · subst e
      rw [g _ (by omega) (by omega) (by omega) (by omega) (by omega), g _ (by omega) (by omega) (by omega) (by omega) (by omega), g _ (by omega) (by omega) (by omega) (by omega) (by omega)]
      exact k.2.2.2
    · rw [f _ (by omega) (by omega) (by omega) (by omega) (by omega) (by omega), f _ (by omega) (by omega) (by omega) (by omega) (by omega) (by omega), f _ (by omega) (by omega) (by omega) (by omega) (by omega) (by omega)]
      exact a10 q hq
theorem p_image {x : Int} (hL : zLRok LR) (h : zInv LR μ) (hd : 3 ≤ d) (hQ : ∀ v ρ, zInv LR ρ → Q v v ρ) : zCi X true l d 0 0 y_S_image [(12, 0, 0), (0, 0, x)] μ (fun v ν => zCi X true l d 0 0 y_M_image [(13, 0, 1320), (0, 0, x)] ν (fun w ρ => Q v w ρ)) := by
  refine c_S_image (d1 := 2) (by omega) (k_S_within (fun p q => ⟨fun _ => ?_, fun c => absurd c (by decide)⟩) (fun c0 => ⟨fun c => absurd rfl c, fun _ => k_S_refuse1 ?_⟩))
  · have hx : x = 0 ∨ x = 1 := by omega
    have hb : (0 : Int) ≤ x ∧ x < 2 := by omega
    have a6 : zRoom LR μ (0 + 1) (μ 1322) := h.2.2.2.2.2.1
    have a10 : μ (0 + 87 + 1061 + 86 * x + 10) 1 = 8 ∧ μ (0 + 87 + 1061 + 86 * x + 14) 1 = 40 ∧ μ (0 + 87 + 1061 + 86 * x + 18) 1 = 40 := h.2.2.2.2.2.2.2.2.2 x hx
    refine ⟨hb, k_Room_become hL (by decide) (by omega) a6 a10 fun ν5 (k5 : ∀ c : Int, ¬ (1148 + 86 * x ≤ c ∧ c < 1148 + 86 * x + 86) → ν5 c = μ c) (k : zRoom LR ν5 (1148 + 86 * x) (μ 1322)) => ⟨hb, k_S_allow ?_⟩⟩
    generalize hm : sok (zup ν5 (0 + 88) x 1) = μ1
    have m1 : ∀ c : Int, c ≠ 0 → c ≠ 88 → μ1 c = ν5 c := fun c q1 q2 => by
      rw [← hm]; unfold sok; rw [zup_ne q1, zup_ne (by omega)]
    have m2 : ∀ j : Int, j ≠ 10 → μ1 0 j = μ 0 j := fun j hj => by
      rw [← hm]; unfold sok; rw [zup_miss (by omega), zup_ne (by omega), k5 _ (by omega)]
    have m3 : μ1 0 10 = 0 := by rw [← hm]; unfold sok; rw [zup_hit]
    have m4 : ∀ j : Int, μ1 88 j = if j = x then 1 else μ 88 j := fun j => by
      rw [← hm]; unfold sok
      rw [zup_ne (by decide)]
      show zup ν5 88 x 1 88 j = _
      rw [zup_at, k5 _ (by omega)]
    have loop : ∀ m i : Nat, i + m = 4080 → ∀ ν : zM, (∀ c : Int, c ≠ 1323 → ν c = zup μ1 1320 0 0 c) → (∀ j : Int, ν 1323 j = if 4080 * x ≤ j ∧ j < 4080 * x + i then μ 1322 (j - 4080 * x) else μ 1323 j) → zE X true l d 0 0 y_M_image 23 [some (13, 0, 1320), some (0, 0, x), some (0, 0, (i : Int))] [] ν (zri (fun w ρ => Q 0 w ρ)) := by
      intro m
      induction m with
      | zero =>
        intro i hi ν n1 n2
        obtain rfl : i = 4080 := by omega
        refine s_M_image_23 (d1 := 2) (by omega) ⟨fun _ => ⟨hb, k_M_tellp (by decide) (hQ _ _ ?_)⟩, fun c => absurd (by decide) c⟩
        refine h.image hL hx k k5 (fun c q1 q2 q3 q4 q5 => ?_) (fun j hj => ?_) (fun j j0 j1 => ?_) ?_ (fun j => ?_) (fun j => ?_) (fun j => ?_)
        · unfold mok
          rw [zup_ne q3, zup_ne (by omega), n1 c q4, zup_ne q3, m1 c q1 q2]
        · unfold mok
          rw [zup_ne (by decide), zup_ne (by decide), n1 0 (by decide), zup_ne (by decide), m2 j hj]
        · unfold mok
          rw [zup_miss (by omega), zup_ne (by decide), n1 _ (by decide), zup_miss (by omega), m1 _ (by decide) (by decide), k5 _ (by omega)]
        · unfold mok
          rw [zup_hit, zup_ne (by decide), zup_ne (by decide), n1 _ (by decide), zup_ne (by decide), m3]
        · unfold mok
          rw [zup_ne (by decide), zup_ne (by decide), n1 _ (by decide), zup_ne (by decide), m4]
        · unfold mok
          rw [zup_ne (by decide)]
          show zup ν 1324 x 1 1324 j = _
          rw [zup_at, n1 _ (by decide), zup_ne (by decide), m1 _ (by decide) (by decide), k5 _ (by omega)]
        · unfold mok
          rw [zup_ne (by decide), zup_ne (by decide), n2]
          rfl
      | succ m ih =>
        intro i hi ν n1 n2
        have e1 : zw (zw (4080 * x) + i) = 4080 * x + i := by rw [zw_of (x := 4080 * x) (by omega) (by omega), zw_of (by omega) (by omega)]
        refine s_M_image_23 (d1 := 2) (by omega) ⟨fun c => absurd c (by omega), fun _ => ⟨by omega, ?_⟩⟩
        rw [e1, zw_of (x := (i : Int) + 1) (by omega) (by omega)]
        refine ⟨by omega, ih (i + 1) (by omega) _ (fun c hc => ?_) (fun j => ?_)⟩
        · rw [zup_ne (by omega)]
          exact n1 c hc
        · show zup ν 1323 (4080 * x + i) (ν 1322 i) 1323 j = _
          have e2 : ν 1322 i = μ 1322 i := by rw [n1 _ (by decide), zup_ne (by decide), m1 _ (by decide) (by decide), k5 _ (by omega)]
          rw [zup_val, n2, e2]
          by_cases c : j = 4080 * x + i
          · rw [if_pos c, if_pos (by omega)]
            congr 1
            omega
          · rw [if_neg c]
            by_cases c2 : 4080 * x ≤ j ∧ j < 4080 * x + i
            · rw [if_pos c2, if_pos (by omega)]
            · rw [if_neg c2, if_neg (by omega)]
    refine c_M_image (d1 := 2) (by omega) (k_M_in (fun _ _ => ⟨fun _ => loop 4080 0 rfl _ (fun c _ => rfl) (fun j => ?_), fun c => absurd c (by decide)⟩) (fun c => absurd ⟨p, q⟩ c))
    rw [zup_ne (by decide), m1 _ (by decide) (by decide), k5 _ (by omega), if_neg (by omega)]
  · exact c_M_image (d1 := 2) (by omega) (k_M_in (fun p q => absurd ⟨p, q⟩ c0) (fun _ => ⟨fun c => absurd rfl c, fun _ => k_M_telln (by decide) (hQ _ _ (h.ref hL (by decide)))⟩))
theorem p_back {x : Int} (hL : zLRok LR) (h : zInv LR μ) (hd : 3 ≤ d) (hQ : ∀ v ρ, zInv LR ρ → Q v v ρ) : zCi X true l d 0 0 y_S_back [(12, 0, 0), (0, 0, x)] μ (fun v ν => zCi X true l d 0 0 y_M_back [(13, 0, 1320), (0, 0, x)] ν (fun w ρ => Q v w ρ)) := by
  refine c_S_back (d1 := 2) (by omega) (k_S_within (fun p q => ⟨fun _ => ⟨by omega, fun (c1 : ¬ μ 88 x = 0) => ?_, fun (c1 : μ 88 x = 0) => k_S_refuse2 ?_⟩, fun c => absurd c (by decide)⟩) (fun c0 => ⟨fun c => absurd rfl c, fun _ => k_S_refuse1 ?_⟩))
  · have hx : x = 0 ∨ x = 1 := by omega
    have hb : (0 : Int) ≤ x ∧ x < 2 := by omega
    obtain ⟨b1, b2, b3⟩ := h.2.2.2.2.2.2.1 x hx
    have a6 : zRoom LR μ (0 + 87 + 1061 + 86 * x) (fun i => μ 1323 (4080 * x + i)) := b3 (by omega)
    have a10 : μ (0 + 1 + 10) 1 = 8 ∧ μ (0 + 1 + 14) 1 = 40 ∧ μ (0 + 1 + 18) 1 = 40 := h.2.2.2.2.2.1.2.2.2
    refine ⟨hb, k_Room_become hL (by decide) (by omega) a6 a10 fun ν5 (k5 : ∀ c : Int, ¬ (1 ≤ c ∧ c < 87) → ν5 c = μ c) (k : zRoom LR ν5 1 (fun i => μ 1323 (4080 * x + i))) => k_S_allow ?_⟩
    generalize hm : sok ν5 = μ1
    have m1 : ∀ c : Int, c ≠ 0 → μ1 c = ν5 c := fun c q1 => by
      rw [← hm]; unfold sok; rw [zup_ne q1]
    have m2 : ∀ j : Int, j ≠ 10 → μ1 0 j = μ 0 j := fun j hj => by
      rw [← hm]; unfold sok; rw [zup_miss (by omega), k5 _ (by omega)]
    have m3 : μ1 0 10 = 0 := by rw [← hm]; unfold sok; rw [zup_hit]
    have loop : ∀ m i : Nat, i + m = 4080 → ∀ ν : zM, (∀ c : Int, c ≠ 1322 → ν c = zup μ1 1320 0 0 c) → (∀ j : Int, 0 ≤ j → j < i → ν 1322 j = μ 1323 (4080 * x + j)) → zE X true l d 0 0 y_M_back 39 [some (13, 0, 1320), some (0, 0, x), some (0, 0, (i : Int))] [] ν (zri (fun w ρ => Q 0 w ρ)) := by
      intro m
      induction m with
      | zero =>
        intro i hi ν n1 n2
        obtain rfl : i = 4080 := by omega
        refine s_M_back_39 (d1 := 2) (by omega) ⟨fun _ => k_M_tellp (by decide) (hQ _ _ ?_), fun c => absurd (by decide) c⟩
        refine h.room hL (ρ := ν 1322) k5 (k.row hL (fun i i0 i1 => n2 i i0 i1)) (fun c q1 q2 q3 => ?_) (fun j hj => ?_) (fun j j0 j1 => ?_) ?_ ?_
        · unfold mok
          rw [zup_ne q2, n1 c q3, zup_ne q2, m1 c q1]
        · unfold mok
          rw [zup_ne (by decide), n1 0 (by decide), zup_ne (by decide), m2 j hj]
        · unfold mok
          rw [zup_miss (by omega), n1 _ (by decide), zup_miss (by omega), m1 _ (by decide), k5 _ (by omega)]
        · unfold mok
          rw [zup_hit, zup_ne (by decide), n1 _ (by decide), zup_ne (by decide), m3]
        · unfold mok
          rw [zup_ne (by decide)]
      | succ m ih =>
        intro i hi ν n1 n2
        have e1 : zw (zw (4080 * x) + i) = 4080 * x + i := by rw [zw_of (x := 4080 * x) (by omega) (by omega), zw_of (by omega) (by omega)]
        refine s_M_back_39 (d1 := 2) (by omega) ⟨fun c => absurd c (by omega), fun _ => ?_⟩
        rw [e1, zw_of (x := (i : Int) + 1) (by omega) (by omega)]
        refine ⟨by omega, by omega, ih (i + 1) (by omega) _ (fun c hc => ?_) (fun j j0 j1 => ?_)⟩
        · rw [zup_ne (by omega)]
          exact n1 c hc
        · show zup ν 1322 i (ν 1323 (4080 * x + i)) 1322 j = _
          have e2 : ν 1323 = μ 1323 := by rw [n1 _ (by decide), zup_ne (by decide), m1 _ (by decide), k5 _ (by omega)]
          rw [zup_val, e2]
          by_cases c : j = i
          · rw [if_pos c, c]
          · rw [if_neg c]
            exact n2 j j0 (by omega)
    have c2 : ¬ zup μ1 1320 0 0 1324 x = 0 := by
      rw [zup_ne (by decide), m1 _ (by decide), k5 _ (by omega), ← b1]
      exact c1
    exact c_M_back (d1 := 2) (by omega) (k_M_in (fun _ _ => ⟨fun _ => ⟨hb, fun _ => loop 4080 0 rfl _ (fun c _ => rfl) (fun j j0 j1 => by omega), fun c => absurd c c2⟩, fun c => absurd c (by decide)⟩) (fun c => absurd ⟨p, q⟩ c))
  · have hx : x = 0 ∨ x = 1 := by omega
    obtain ⟨b1, b2, b3⟩ := h.2.2.2.2.2.2.1 x hx
    have c2 : zup (sref μ (-2) 1) 1320 0 0 1324 x = 0 := by
      unfold sref
      rw [zup_ne (by decide), zup_ne (by decide), zup_ne (by decide), ← b1]
      exact c1
    exact c_M_back (d1 := 2) (by omega) (k_M_in (fun _ _ => ⟨fun _ => ⟨by omega, fun c => absurd c2 c, fun _ => k_M_telln (by decide) (hQ _ _ (h.ref hL (by decide)))⟩, fun c => absurd c (by decide)⟩) (fun c => absurd ⟨p, q⟩ c))
  · exact c_M_back (d1 := 2) (by omega) (k_M_in (fun p q => absurd ⟨p, q⟩ c0) (fun _ => ⟨fun c => absurd rfl c, fun _ => k_M_telln (by decide) (hQ _ _ (h.ref hL (by decide)))⟩))
end

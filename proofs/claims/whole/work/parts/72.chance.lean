/-! reasons, chance -/
/-- bits -/
def zB (x : Int) : BitVec 32 := (Int32.ofInt x).toBitVec
theorem zB_and (a b : Int) : zB (zand a b) = zB a &&& zB b := by
  unfold zB zand
  rw [Int32.ofInt_toInt]
  rfl
theorem zB_or (a b : Int) : zB (zor a b) = zB a ||| zB b := by
  unfold zB zor
  rw [Int32.ofInt_toInt]
  rfl
theorem zB_not (a : Int) : zB (zxor a (-1)) = ~~~ zB a := by
  unfold zB zxor
  rw [Int32.ofInt_toInt]
  have : (Int32.ofInt a ^^^ Int32.ofInt (-1)).toBitVec = (Int32.ofInt a).toBitVec ^^^ BitVec.allOnes 32 := rfl
  rw [this, BitVec.xor_allOnes]
theorem zand_eq {a b c e : Int} (h : zB a &&& zB b = zB c &&& zB e) : zand a b = zand c e := by
  have h1 : zand a b = (zB a &&& zB b).toInt := rfl
  have h2 : zand c e = (zB c &&& zB e).toInt := rfl
  rw [h1, h2, h]
/-- who does not count, does not change what is told -/
theorem zfc_mask {δ : Nat → Int → Int} {p g s go o : Int} (ho : zoth (δ 10 0) p = o) : zfc δ p g (zand (zand s (zxor (zand s go) (-1))) o) (zand (zand go (zxor (zand s go) (-1))) o) = zfc δ p g (zand s (zxor go (-1))) (zand go (zxor s (-1))) := by
  have key : ∀ A O S G : BitVec 32, (A &&& O) &&& ~~~((S &&& ~~~(S &&& G) &&& O) ||| (G &&& ~~~(S &&& G) &&& O)) = (A &&& O) &&& ~~~((S &&& ~~~G) ||| (G &&& ~~~S)) ∧ (A &&& O) &&& (S &&& ~~~(S &&& G) &&& O) = (A &&& O) &&& (S &&& ~~~G) ∧ (A &&& O) &&& (G &&& ~~~(S &&& G) &&& O) = (A &&& O) &&& (G &&& ~~~S) := by
    intro A O S G
    refine ⟨?_, ?_, ?_⟩ <;> ext i hi <;> simp only [BitVec.getElem_and, BitVec.getElem_or, BitVec.getElem_not] <;> cases A[i] <;> cases O[i] <;> cases S[i] <;> cases G[i] <;> rfl
  have key2 : ∀ A O H S G : BitVec 32, (A &&& O &&& H) &&& ((S &&& ~~~(S &&& G) &&& O) ||| (G &&& ~~~(S &&& G) &&& O)) = (A &&& O &&& H) &&& ((S &&& ~~~G) ||| (G &&& ~~~S)) := by
    intro A O H S G
    ext i hi
    simp only [BitVec.getElem_and, BitVec.getElem_or, BitVec.getElem_not]
    cases A[i] <;> cases O[i] <;> cases S[i] <;> cases G[i] <;> cases H[i] <;> rfl
  obtain ⟨k1, k2, k3⟩ := key (zB (δ 2 p)) (zB o) (zB s) (zB go)
  obtain ⟨_, k4, _⟩ := key (zB (δ 3 p)) (zB o) (zB s) (zB go)
  have k5 := key2 (zB (δ 2 p)) (zB o) (zB (δ 4 p)) (zB s) (zB go)
  funext q
  unfold zfc zseen
  rw [ho]
  rw [zand_eq (a := zand (δ 2 p) o) (b := zxor (zor (zand (zand s (zxor (zand s go) (-1))) o) (zand (zand go (zxor (zand s go) (-1))) o)) (-1)) (c := zand (δ 2 p) o) (e := zxor (zor (zand s (zxor go (-1))) (zand go (zxor s (-1)))) (-1)) (by simp only [zB_and, zB_or, zB_not]; exact k1)]
  rw [zand_eq (a := zand (δ 2 p) o) (b := zand (zand s (zxor (zand s go) (-1))) o) (c := zand (δ 2 p) o) (e := zand s (zxor go (-1))) (by simp only [zB_and, zB_or, zB_not]; exact k2)]
  rw [zand_eq (a := zand (δ 2 p) o) (b := zand (zand go (zxor (zand s go) (-1))) o) (c := zand (δ 2 p) o) (e := zand go (zxor s (-1))) (by simp only [zB_and, zB_or, zB_not]; exact k3)]
  rw [zand_eq (a := zand (δ 3 p) o) (b := zand (zand s (zxor (zand s go) (-1))) o) (c := zand (δ 3 p) o) (e := zand s (zxor go (-1))) (by simp only [zB_and, zB_or, zB_not]; exact k4)]
  rw [zand_eq (a := zand (zand (δ 2 p) o) (δ 4 p)) (b := zor (zand (zand s (zxor (zand s go) (-1))) o) (zand (zand go (zxor (zand s go) (-1))) o)) (c := zand (zand (δ 2 p) o) (δ 4 p)) (e := zor (zand s (zxor go (-1))) (zand go (zxor s (-1)))) (by simp only [zB_and, zB_or, zB_not]; exact k5)]
theorem zcha_mask {δ : Nat → Int → Int} {law : Option zLaw} {wo p g s go o : Int} (ho : zoth (δ 10 0) p = o) : zcha δ law wo p g (zand (zand s (zxor (zand s go) (-1))) o) (zand (zand go (zxor (zand s go) (-1))) o) = zcha δ law wo p g (zand s (zxor go (-1))) (zand go (zxor s (-1))) := by
  unfold zcha
  rw [zfc_mask ho]
section
variable {X : zX} {l : Launch} {d : Nat} {μ : zM} {Q : Int → Int → zM → Prop}
theorem p_reasons {x : Int} (h : zInv zLR μ) (hd : 3 ≤ d) (hQ : ∀ v ρ, zInv zLR ρ → Q v v ρ) : zCi X true l d 0 0 y_S_reasons [(12, 0, 0), (0, 0, x)] μ (fun v ν => zCi X true l d 0 0 y_M_reasons [(13, 0, 1320), (0, 0, x)] ν (fun w ρ => Q v w ρ)) := by
  have e7 := h.nlaws
  have r3 := h.rb.2.2.2.1
  have ht := h.thrown zLR_ok
  have e22 : zup μ 1320 0 0 1322 = μ 1322 := zup_ne (by decide)
  refine c_S_reasons (a0 := 0) (d1 := 2) (by omega) (k_S_isLaw (fun p q r => ⟨fun c => absurd c (by decide), fun _ => ⟨by omega, ?_⟩⟩) (fun c => ⟨fun _ => ?_, fun q => absurd rfl q⟩))
  · obtain ⟨n, g, n12, hn, hn2, hc⟩ := h.heads (x := x) p (by omega)
    have ea : (0 : Int) + 1 + 8 + 50 + 7 * x = 59 + 7 * x := by omega
    rw [ea]
    have hg : zholds (μ (59 + 7 * x + 1)) n = zholds g n := zholds_congr n (fun c c0 c1 => by
      have := (hc c c0 c1).1
      rw [show (59 : Int) + 7 * x + 1 = 60 + 7 * x by omega]
      exact this)
    refine k_Law_holds hn n12 (c_M_reasons (a0 := 1320) (d1 := 2) (by omega) (k_M_isLaw (by omega) (by rw [e22]; omega) (fun _ _ => ⟨fun c => absurd c (by decide), fun _ => ?_⟩) (fun c => absurd ⟨p, by rw [e22]; omega⟩ c)))
    refine k_M_reasonsOf (g := g) p (by omega) (by rw [e22]; exact hn2) n12 (fun c c0 c1 => by rw [e22]; exact ⟨(hc c c0 c1).2.1, (hc c c0 c1).2.2⟩) ?_
    rw [hg]
    exact hQ _ _ ht
  · exact c_M_reasons (a0 := 1320) (d1 := 2) (by omega) (k_M_isLaw (by omega) (by rw [e22]; omega) (fun p q => absurd ⟨p, by rw [e22] at q; omega, by rw [e22] at q; omega⟩ c) (fun _ => ⟨fun _ => hQ _ _ ht, fun q => absurd rfl q⟩))
/-- someone of the plan in use -/
theorem k_S_isThere {x : Int} {Q : Int → zM → Prop} (hd : 3 ≤ d) (h : zInv zLR μ) (h1 : 0 ≤ x → x < μ 1322 (10 + μ 1322 0) → Q 1 μ) (h0 : ¬ (0 ≤ x ∧ x < μ 1322 (10 + μ 1322 0)) → Q 0 μ) : zCi X true l d 0 0 y_S_isThere [(12, 0, 0), (0, 0, x)] μ Q := by
  obtain ⟨u0, u1, u2⟩ := h.use
  obtain ⟨m0, m1, m2⟩ := h.many u1 u2
  refine c_S_isThere (d1 := 2) (by omega) (k_S_isPerson (fun p q => ⟨fun c => absurd c (by decide), fun _ => k_S_planInUse (by omega) (by omega) ?_⟩) (fun c => ⟨fun _ => h0 (by omega), fun q => absurd rfl q⟩))
  rw [u0, m0]
  exact ⟨fun c => h0 (by omega), fun c => h1 p (by omega)⟩
theorem k_lookAround {Q : zM → Prop} (hd : 2 ≤ d) (h : zInv zLR μ) (hQ : ∀ ν, (∀ b : Int, ¬ (106 ≤ b ∧ b ≤ 118) → ν b = μ b) → zCd ν (zMd (μ 1322) (μ 1322 0) (μ 1322 (10 + μ 1322 0)) 0 0) → ν 106 4 = (if μ 1322 1 = -1 then -1 else 59 + 7 * μ 1322 1) → ν 106 5 = -1 → Q ν) : zCv X true l d 0 0 y_S_lookAround [(12, 0, 0)] μ Q := by
  obtain ⟨u0, u1, u2⟩ := h.use
  obtain ⟨f0, f1, f2, f3⟩ := h.force
  refine c_S_lookAround (a0 := 0) (d1 := 1) (by omega) ?_
  simp only [Int.reduceAdd]
  rw [u0, f0]
  exact k_take (by omega) h u1 u2 (by omega) (fun ν n1 n2 n3 n4 n5 => hQ ν n1 n3 n4 n5)
theorem k_lookAtUse {Q : zM → Prop} (hd : 1 ≤ d) (hu : 0 ≤ μ 1322 0 ∧ μ 1322 0 < 6) (hQ : Q (zup (zup (zup (zup (zup μ 1320 30 (μ 1322 0)) 1320 31 (μ 1322 (10 + μ 1322 0))) 1320 32 (μ 1322 1)) 1320 33 (-1)) 1320 34 0)) : zCv X true l d 0 0 y_M_lookAtUse [(13, 0, 1320)] μ Q := by
  refine c_M_lookAtUse (a0 := 1320) (d1 := 0) (by omega) ?_
  simp only [Int.reduceAdd]
  rw [zw_of (by omega) (by omega)]
  exact ⟨by omega, c_M_lookAt hQ⟩
theorem p_chance {x y s go : Int} (h : zInv zLR μ) (hd : 4 ≤ d) (hQ : ∀ v ρ, zInv zLR ρ → Q v v ρ) : zCi X true l d 0 0 y_S_chance [(12, 0, 0), (0, 0, x), (0, 0, y), (0, 0, s), (0, 0, go)] μ (fun v ν => zCi X true l d 0 0 y_M_chance [(13, 0, 1320), (0, 0, x), (0, 0, y), (0, 0, s), (0, 0, go)] ν (fun w ρ => Q v w ρ)) := by
  obtain ⟨u0, u1, u2⟩ := h.use
  obtain ⟨m0, m1, m2⟩ := h.many u1 u2
  obtain ⟨f0, f1, f2, f3⟩ := h.force
  obtain ⟨law, hl1, hl2⟩ := h.law (x := μ 1322 1) (by omega)
  have fin : ∀ (v : Int) (ν : zM), (∀ b : Int, ¬ (106 ≤ b ∧ b ≤ 120) → ν b = μ b) → ((0 ≤ x ∧ x < μ 1322 (10 + μ 1322 0)) → (0 ≤ y ∧ y ≤ 11) → (0 ≤ s ∧ s ≤ 31) → (0 ≤ go ∧ go ≤ 31) → zcha (zMd (μ 1322) (μ 1322 0) (μ 1322 (10 + μ 1322 0)) 0 0) law (-1) x y (zand s (zxor go (-1))) (zand go (zxor s (-1))) = v) → (¬ ((0 ≤ x ∧ x < μ 1322 (10 + μ 1322 0)) ∧ (0 ≤ y ∧ y ≤ 11) ∧ (0 ≤ s ∧ s ≤ 31) ∧ (0 ≤ go ∧ go ≤ 31)) → v = -1) → zCi X true l d 0 0 y_M_chance [(13, 0, 1320), (0, 0, x), (0, 0, y), (0, 0, s), (0, 0, go)] ν (fun w ρ => Q v w ρ) := by
    intro v ν n1 hv hv2
    have e22 : zup ν 1320 0 0 1322 = μ 1322 := by rw [zup_ne (by decide), n1 _ (by decide)]
    refine c_M_chance (a0 := 1320) (d1 := 3) (by omega) (k_lookAtUse (by omega) (by rw [e22]; exact ⟨u1, u2⟩) ?_)
    rw [e22]
    generalize hμ2 : zup (zup (zup (zup (zup (zup ν 1320 0 0) 1320 30 (μ 1322 0)) 1320 31 (μ 1322 (10 + μ 1322 0))) 1320 32 (μ 1322 1)) 1320 33 (-1)) 1320 34 0 = μ2
    have q30 : μ2 1320 30 = μ 1322 0 := by rw [← hμ2]; simp [zup]
    have q31 : μ2 1320 31 = μ 1322 (10 + μ 1322 0) := by rw [← hμ2]; simp [zup]
    have q32 : μ2 1320 32 = μ 1322 1 := by rw [← hμ2]; simp [zup]
    have q33 : μ2 1320 33 = -1 := by rw [← hμ2]; simp [zup]
    have q34 : μ2 1320 34 = 0 := by rw [← hμ2]; simp [zup]
    have q0 : ∀ b : Int, b ≠ 1320 → μ2 b = ν b := fun b hb => by rw [← hμ2, zup_ne hb, zup_ne hb, zup_ne hb, zup_ne hb, zup_ne hb, zup_ne hb]
    have qj : ∀ j : Int, j ≠ 0 → j ≠ 30 → j ≠ 31 → j ≠ 32 → j ≠ 33 → j ≠ 34 → μ2 1320 j = μ 1320 j := fun j j0 j1 j2 j3 j4 j5 => by rw [← hμ2, zup_miss (by omega), zup_miss (by omega), zup_miss (by omega), zup_miss (by omega), zup_miss (by omega), zup_miss (by omega), n1 _ (by decide)]
    have r22 : μ2 1322 = μ 1322 := by rw [q0 _ (by decide), n1 _ (by decide)]
    -- what is left of the state
    have inv : ∀ ρ : zM, (∀ b : Int, b ≠ 1320 → b ≠ 1331 → b ≠ 1332 → ρ b = μ2 b) → (∀ j : Int, j ≠ 24 → j ≠ 27 → j ≠ 28 → j ≠ 29 → ρ 1320 j = μ2 1320 j) → zInv zLR ρ := fun ρ p1 p2 => by
      have e : ∀ b : Int, b ≠ 1320 → b ≠ 1331 → b ≠ 1332 → ¬ (106 ≤ b ∧ b ≤ 120) → ρ b = μ b := fun b b0 b1 b2 b3 => by rw [p1 b b0 b1 b2, q0 b b0, n1 b b3]
      have ej : ∀ j : Int, j ≠ 0 → j ≠ 24 → j ≠ 27 → j ≠ 28 → j ≠ 29 → j ≠ 30 → j ≠ 31 → j ≠ 32 → j ≠ 33 → j ≠ 34 → ρ 1320 j = μ 1320 j := fun j j0 j1 j2 j3 j4 j5 j6 j7 j8 j9 => by rw [p2 j j1 j2 j3 j4, qj j j0 j5 j6 j7 j8 j9]
      refine h.calm zLR_ok (fun b b0 b1 => e b (by omega) (by omega) (by omega) (by omega)) (e _ (by decide) (by decide) (by decide) (by decide)) (fun b b0 b1 => e b (by omega) (by omega) (by omega) (by omega)) (fun b b0 b1 => e b (by omega) (by omega) (by omega) (by omega)) (e _ (by decide) (by decide) (by decide) (by decide)) ⟨ej 1 (by decide) (by decide) (by decide) (by decide) (by decide) (by decide) (by decide) (by decide) (by decide) (by decide), ej 7 (by decide) (by decide) (by decide) (by decide) (by decide) (by decide) (by decide) (by decide) (by decide) (by decide), ej 12 (by decide) (by decide) (by decide) (by decide) (by decide) (by decide) (by decide) (by decide) (by decide) (by decide), ej 45 (by decide) (by decide) (by decide) (by decide) (by decide) (by decide) (by decide) (by decide) (by decide) (by decide)⟩ ?_
      exact h.2.2.2.2.2.2.2.2.keep2 (fun b b0 b1 => e b (by omega) (by omega) (by omega) (by omega))
    have i0 := inv μ2 (fun _ _ _ _ => rfl) (fun _ _ _ _ _ => rfl)
    rw [q31, zwl_id (by omega) (by omega)]
    have no : ∀ w : Int, v = w → Q v w μ2 := fun w e => by rw [e]; exact hQ _ _ i0
    refine k_M_in (fun p1 p2 => ⟨fun c => absurd c (by decide), fun _ => ?_⟩) (fun c => ⟨fun _ => no _ (hv2 (by omega)), fun q => absurd rfl q⟩)
    refine k_M_isGlance (by omega) (fun p3 p4 => ⟨fun c => absurd c (by decide), fun _ => ?_⟩) (fun c => ⟨fun _ => no _ (hv2 (by omega)), fun q => absurd rfl q⟩)
    refine k_M_in (fun p5 p6 => ⟨fun c => absurd c (by decide), fun _ => ?_⟩) (fun c => ⟨fun _ => no _ (hv2 (by omega)), fun q => absurd rfl q⟩)
    refine k_M_in (fun p7 p8 => ⟨fun _ => ?_, fun c => absurd c (by decide)⟩) (fun c => ⟨fun q => absurd rfl q, fun _ => no _ (hv2 (by omega))⟩)
    refine c_M_othersThan (c_M_othersThan (k_M_chanceOf (law := law) (by omega) (by rw [r22]; exact h.rb) q30 u1 u2 q31 m1 m2 q34 (hl2 μ2 r22 q32) (by omega) (by omega) (by omega) (by omega) (fun ρ t1 t2 => ?_)))
    rw [r22, q33, q31]
    rw [zcha_mask (δ := zMd (μ 1322) (μ 1322 0) (μ 1322 (10 + μ 1322 0)) 0 0) (o := zand (zw (zshl 1 (μ 1322 (10 + μ 1322 0)) - 1)) (zxor (zshl 1 x) (-1))) rfl, hv ⟨p1, by omega⟩ ⟨by omega, by omega⟩ ⟨p5, p6⟩ ⟨p7, p8⟩]
    exact hQ _ _ (inv ρ t1 t2)
  refine c_S_chance (a0 := 0) (d1 := 3) (by omega) (k_S_isThere (by omega) h (fun p1 p2 => ⟨fun c => absurd c (by decide), fun _ => ?_⟩) (fun c => ⟨fun _ => fin _ _ (fun _ _ => rfl) (fun q => absurd q c) (fun _ => rfl), fun q => absurd rfl q⟩))
  refine k_S_within (fun p3 p4 => ⟨fun _ => ?_, fun c => absurd c (by decide)⟩) (fun c => ⟨fun q => absurd rfl q, fun _ => fin _ _ (fun _ _ => rfl) (fun _ q => absurd q c) (fun _ => rfl)⟩)
  refine k_S_within (fun p5 p6 => ⟨fun c => absurd c (by decide), fun _ => ?_⟩) (fun c => ⟨fun _ => fin _ _ (fun _ _ => rfl) (fun _ _ q => absurd q c) (fun _ => rfl), fun q => absurd rfl q⟩)
  refine k_S_within (fun p7 p8 => ⟨fun _ => ?_, fun c => absurd c (by decide)⟩) (fun c => ⟨fun q => absurd rfl q, fun _ => fin _ _ (fun _ _ => rfl) (fun _ _ _ q => absurd q c) (fun _ => rfl)⟩)
  refine k_lookAround (by omega) h (fun ν n1 n2 n3 n4 => ?_)
  have hD := zMd_db (bs := 0) (al := 0) h.rb u1 u2 m1 m2
  have hcl := hl1 ν (fun b b0 b1 => n1 b (by omega)) n3
  refine k_chanceOf (by omega) n2 hD hcl p1 (by omega) p3 (by omega) (fun ν2 t1 => ?_)
  rw [n4]
  exact fin _ _ (fun b hb => by rw [t1 b (by omega) (by omega)]; exact n1 b (by omega)) (fun _ _ _ _ => rfl) (fun q => absurd ⟨⟨p1, p2⟩, ⟨p3, p4⟩, ⟨p5, p6⟩, ⟨p7, p8⟩⟩ q)
end

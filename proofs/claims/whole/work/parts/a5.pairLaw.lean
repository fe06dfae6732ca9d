/-! law: the pair -/
theorem zla_7 : ∀ i, i < 480 → zla i = (0, 7) → i = 3 := by decide +kernel
theorem zla_9 : ∀ i, i < 480 → (zla i).1 = 9 → 212 ≤ i ∧ i < 216 ∧ (zla i).2 = i - 212 := by decide +kernel
theorem zvl_480 {i : Nat} (h : zvl i) : i < 480 := by
  unfold zvl at h
  refine Decidable.byContradiction (fun z => ?_)
  have : zla i = (1000, i) := by
    unfold zla
    repeat rw [if_neg (by omega)]
  rw [this] at h
  have h' : (1000 : Nat) < 58 := h
  omega
section
variable {X : zX} {l : Launch} {d : Nat} {μ : zM} {Q : Int → Int → zM → Prop} {LR : zM → Int → (Int → Int) → Prop}
theorem zInv.law9 (hL : zLRok LR) (h : zInv LR μ) {ν : zM} (h1 : ν 0 4 = 0 ∧ ν 1320 7 = 0) (h6 : ν 0 6 = ν 1320 12) (h10 : ν 0 10 = ν 1320 1) (h3 : ν 103 0 = ν 1321 1 ∧ ν 103 1 = ν 1321 2 ∧ ν 103 2 = ν 1321 5 ∧ ν 103 3 = ν 1321 6) (h45 : ν 1320 45 = μ 1320 45)
    (h4 : ν 89 = μ 89 ∧ ν 1325 = μ 1325 ∧ ν 88 = μ 88 ∧ ν 1324 = μ 1324 ∧ ν 1323 = μ 1323 ∧ ν 100 = μ 100 ∧ ν 1342 = μ 1342) (h5 : ∀ b : Int, 104 ≤ b → b < 1320 → ν b = μ b) (hR : zRoom LR ν 1 (ν 1322)) : zInv LR ν := by
  obtain ⟨k1, k2, k3, k4, k5, k6, k7, k8, k9⟩ := h
  obtain ⟨e89, e1325, e88, e1324, e1323, e100, e1342⟩ := h4
  refine ⟨⟨by rw [h1.1, h1.2], by rw [h1.1]; omega, by rw [h1.1]; omega⟩, fun i i0 i1 => by rw [e89, e1325]; exact k2 i i0 i1, h6, h10, h3, hR, fun k hk => ?_, fun p p0 p1 => by rw [e100, e1342, h45]; exact k8 p p0 p1, k9.keep h5⟩
  have := k7 k hk
  rw [e88, e1324, e1323]
  refine ⟨this.1, this.2.1, fun z => (this.2.2 z).keep hL (fun b b0 b1 => h5 b (by omega) (by omega))⟩
theorem p_law (h : zInv zLR μ) (hd : 63 ≤ d) (hQ : ∀ v ρ, zInv zLR ρ → Q v v ρ) : zCi X true l d 0 0 y_S_law [(12, 0, 0)] μ (fun v ν => zCi X true l d 0 0 y_M_law [(13, 0, 1320)] ν (fun w ρ => Q v w ρ)) := by
  have hL := zLR_ok
  obtain ⟨t1, t2, t3⟩ := h.1
  obtain ⟨L, hLt⟩ : ∃ L : Nat, μ 0 4 = L := ⟨(μ 0 4).toNat, by omega⟩
  have hRm := h.2.2.2.2.2.1
  obtain ⟨hRR, hRB, hLL, hRw⟩ := hRm
  have r3 : μ 1 7 = μ 1322 3 := h.num 3 (by decide) (a := 0) (s := 7) rfl (by decide)
  have rb3 := hRB.2.2.2.1
  obtain ⟨n, hn⟩ : ∃ n : Nat, μ 1322 3 = n := ⟨(μ 1322 3).toNat, by omega⟩
  have hT : ∀ i : Int, 0 ≤ i → i < L → μ 1325 i = μ 89 i := fun i i0 i1 => (h.2.1 i i0 (by omega)).1.symm
  have inv4 := h.2.2.2.1
  have inv5 := h.2.2.2.2.1
  refine k_S_law (T := μ 89) (L := L) (n := n) (g := fun _ => 0) (wt := fun _ _ => none) (ws := fun _ _ => none) hd (by rw [r3]; exact hn) (by omega) hLt (by omega) (fun i _ _ => rfl) (fun e4 => ?_) (fun n4 q' σ e S => ?_) (fun n4 q' m g' wt' ws' σ e S => ?_)
  · -- no room
    have f : ∀ b : Int, b ≠ 0 → b ≠ 103 → sref (zup μ 0 4 0) (-5) 2 b = μ b := fun b h1 h2 => by unfold sref; rw [zup_ne h2, zup_ne h1, zup_ne h1]
    refine k_M_law (T := μ 89) (L := L) (n := n) (g := fun _ => 0) (wt := fun _ _ => none) (ws := fun _ _ => none) (by omega) (by rw [f 1322 (by decide) (by decide)]; exact hn) (by omega) (by rw [f 1320 (by decide) (by decide), ← t1]; exact hLt) (by omega) (fun i i0 i1 => by rw [f 1325 (by decide) (by decide)]; exact hT i i0 i1) (fun _ => hQ _ _ ?_) (fun z => by omega) (fun z => by omega)
    have g : ∀ b : Int, b ≠ 0 → b ≠ 103 → b ≠ 1320 → b ≠ 1321 → mref (zup (zup (sref (zup μ 0 4 0) (-5) 2) 1320 0 0) 1320 7 0) (-5) b = μ b := fun b h1 h2 h3 h4 => by unfold mref; rw [zup_ne h4, zup_ne h3, zup_ne h3, zup_ne h3, f b h1 h2]
    refine h.law9 hL ⟨?_, ?_⟩ ?_ ?_ ⟨?_, ?_, ?_, ?_⟩ ?_ ⟨g 89 (by decide) (by decide) (by decide) (by decide), g 1325 (by decide) (by decide) (by decide) (by decide), g 88 (by decide) (by decide) (by decide) (by decide), g 1324 (by decide) (by decide) (by decide) (by decide), g 1323 (by decide) (by decide) (by decide) (by decide), g 100 (by decide) (by decide) (by decide) (by decide), g 1342 (by decide) (by decide) (by decide) (by decide)⟩ (fun b b0 b1 => g b (by omega) (by omega) (by omega) (by omega)) ?_
    · unfold mref sref; rw [zup_ne (by decide), zup_ne (by decide), zup_ne (by decide), zup_ne (by decide), zup_ne (by decide), zup_miss (by decide), zup_hit]
    · unfold mref; rw [zup_ne (by decide), zup_miss (by decide), zup_hit]
    · unfold mref sref; rw [zup_ne (by decide), zup_ne (by decide), zup_ne (by decide), zup_ne (by decide), zup_ne (by decide), zup_miss (by decide), zup_miss (by decide), zup_ne (by decide), zup_miss (by decide), zup_miss (by decide), zup_miss (by decide), zup_ne (by decide), zup_ne (by decide), zup_ne (by decide)]; exact h.2.2.1
    · unfold mref sref; rw [zup_ne (by decide), zup_ne (by decide), zup_ne (by decide), zup_ne (by decide), zup_ne (by decide), zup_hit, zup_ne (by decide), zup_hit]
    · unfold mref sref; rw [zup_ne (by decide), zup_ne (by decide), zup_ne (by decide), zup_ne (by decide), zup_miss (by decide), zup_ne (by decide), zup_ne (by decide), zup_miss (by decide), zup_ne (by decide), zup_ne (by decide), zup_ne (by decide), zup_ne (by decide), zup_ne (by decide), zup_ne (by decide)]; exact inv5.1
    · unfold mref sref; rw [zup_ne (by decide), zup_ne (by decide), zup_ne (by decide), zup_ne (by decide), zup_miss (by decide), zup_ne (by decide), zup_ne (by decide), zup_miss (by decide), zup_ne (by decide), zup_ne (by decide), zup_ne (by decide), zup_ne (by decide), zup_ne (by decide), zup_ne (by decide)]; exact inv5.2.1
    · unfold mref sref
      rw [zup_ne (by decide), zup_ne (by decide), zup_ne (by decide), zup_ne (by decide), zup_hit, zup_ne (b := 103) (by decide)]
      show _ = zup _ 1321 5 _ 1321 5
      rw [zup_hit, zup_ne (by decide), zup_ne (by decide), zup_ne (by decide), zup_ne (by decide), zup_ne (by decide), inv5.2.2.1]; rfl
    · unfold mref sref; rw [zup_ne (by decide), zup_ne (by decide), zup_ne (by decide), zup_ne (by decide), zup_miss (by decide), zup_ne (by decide), zup_ne (by decide), zup_miss (by decide), zup_ne (by decide), zup_ne (by decide), zup_ne (by decide), zup_ne (by decide), zup_ne (by decide), zup_ne (by decide)]; exact inv5.2.2.2
    · unfold mref; rw [zup_ne (by decide), zup_miss (by decide), zup_miss (by decide), zup_miss (by decide), f 1320 (by decide) (by decide)]
    · rw [g 1322 (by decide) (by decide) (by decide) (by decide)]
      exact h.2.2.2.2.2.1.keep hL (fun b b0 b1 => g b (by omega) (by omega) (by omega) (by omega))
  · -- the text can't be read
    obtain ⟨s1, s2, s3, s4, s5, s6⟩ := S
    refine k_M_law (T := μ 89) (L := L) (n := n) (g := fun _ => 0) (wt := fun _ _ => none) (ws := fun _ _ => none) (by omega) (by rw [s1 1322 (by decide) (by decide) (by decide)]; exact hn) (by omega) (by rw [s1 1320 (by decide) (by decide) (by decide), ← t1]; exact hLt) (by omega) (fun i i0 i1 => by rw [s1 1325 (by decide) (by decide) (by decide)]; exact hT i i0 i1) (fun z => by omega) (fun _ q2 ρ e2 R => hQ _ _ ?_) (fun _ q2 m g' wt' ws' ρ e2 => ?_)
    · rw [e] at e2
      have eq : q' = q2 := congrArg Prod.fst e2
      subst eq
      obtain ⟨r1, r2, r3', r4, r5, r6, r7⟩ := R
      have g : ∀ b : Int, b ≠ 0 → b ≠ 103 → ¬ (90 ≤ b ∧ b ≤ 98) → b ≠ 1320 → b ≠ 1321 → ¬ (1326 ≤ b ∧ b ≤ 1330) → ρ b = μ b := fun b h1 h2 h3 h4 h5 h6 => by rw [r1 b h4 h5 h6, s1 b h1 h2 h3]
      have u0 : ρ 0 = σ 0 := r1 0 (by decide) (by decide) (by decide)
      have u103 : ρ 103 = σ 103 := r1 103 (by decide) (by decide) (by decide)
      have u1321 : σ 1321 = μ 1321 := s1 1321 (by decide) (by decide) (by decide)
      refine h.law9 hL ⟨by rw [u0]; exact s2, r2⟩ (by rw [u0, s3, r3']) (by rw [u0, s4, r4]) ⟨?_, ?_, ?_, ?_⟩ (by rw [r5, s1 1320 (by decide) (by decide) (by decide)]) ⟨g 89 (by decide) (by decide) (by decide) (by decide) (by decide) (by decide), g 1325 (by decide) (by decide) (by decide) (by decide) (by decide) (by decide), g 88 (by decide) (by decide) (by decide) (by decide) (by decide) (by decide), g 1324 (by decide) (by decide) (by decide) (by decide) (by decide) (by decide), g 1323 (by decide) (by decide) (by decide) (by decide) (by decide) (by decide), g 100 (by decide) (by decide) (by decide) (by decide) (by decide) (by decide), g 1342 (by decide) (by decide) (by decide) (by decide) (by decide) (by decide)⟩ (fun b b0 b1 => g b (by omega) (by omega) (by omega) (by omega) (by omega) (by omega)) ?_
      · rw [u103, s5 0 (by decide), r6 1 (by decide), u1321]; exact inv5.1
      · rw [u103, s5 1 (by decide), r6 2 (by decide), u1321]; exact inv5.2.1
      · rw [u103, s5 2 (by decide), r6 5 (by decide), u1321]; exact inv5.2.2.1
      · rw [u103, s6, r7, u1321, inv5.2.2.2]
      · rw [g 1322 (by decide) (by decide) (by decide) (by decide) (by decide) (by decide)]
        exact h.2.2.2.2.2.1.keep hL (fun b b0 b1 => g b (by omega) (by omega) (by omega) (by omega) (by omega) (by omega))
    · rw [e] at e2
      cases congrArg Prod.snd e2
  · -- kept
    obtain ⟨s1, s2, s3, s4, s5, s6, s7, s8, s9, s10, s11, s12⟩ := S
    have sb : ∀ b : Int, 104 ≤ b → σ b = μ b := fun b hb => s1 b (by omega) (by omega) (by omega) (by omega) (by omega)
    refine k_M_law (T := μ 89) (L := L) (n := n) (g := fun _ => 0) (wt := fun _ _ => none) (ws := fun _ _ => none) (by omega) (by rw [sb 1322 (by decide)]; exact hn) (by omega) (by rw [sb 1320 (by decide), ← t1]; exact hLt) (by omega) (fun i i0 i1 => by rw [sb 1325 (by decide)]; exact hT i i0 i1) (fun z => by omega) (fun _ q2 ρ e2 R => ?_) (fun _ q2 m2 g2 wt2 ws2 ρ e2 R => hQ _ _ ?_)
    · rw [e] at e2
      cases congrArg Prod.snd e2
    · rw [e] at e2
      have es : some (m, g', wt', ws') = some (m2, g2, wt2, ws2) := congrArg Prod.snd e2
      cases es
      obtain ⟨r1, r2, r3', r4, r5, r6, r7, r8⟩ := R
      have lo : ∀ b : Int, b < 1320 → ρ b = σ b := fun b hb => r1 b (by omega) (by omega) (by omega)
      have g : ∀ b : Int, b ≠ 0 → b ≠ 1 → b ≠ 10 → ¬ (59 + 7 * (n : Int) ≤ b ∧ b < 59 + 7 * (n : Int) + 7) → ¬ (90 ≤ b ∧ b ≤ 98) → b ≠ 1320 → b ≠ 1322 → ¬ (1326 ≤ b ∧ b ≤ 1330) → ρ b = μ b := fun b h1 h2 h3 h4 h5 h6 h7 h8 => by rw [r1 b h6 h7 h8, s1 b h1 h2 h3 h4 h5]
      have row : ∀ i : Int, i ≠ 3 → i < 480 → ρ 1322 i = μ 1322 i := fun i h1 h2 => by rw [r7 i h1 (by omega), sb 1322 (by decide)]
      have C2 : zLC ρ 92 g' wt' ws' := by
        unfold zLC at s11 ⊢
        simp only [Int.reduceAdd] at s11 ⊢
        rw [lo 92 (by decide), lo 93 (by decide), lo 94 (by decide), lo 95 (by decide), lo 96 (by decide), lo 97 (by decide), lo 98 (by decide)]
        exact s11
      have D2 : zDr ρ (59 + 7 * (n : Int)) := by
        unfold zDr at s9 ⊢
        rw [lo 92 (by decide), lo (59 + 7 * (n : Int)) (by omega)]
        exact ⟨s9.1, s9.2.1, fun k c k1 k2 c0 c1 => by rw [lo _ (by omega), lo _ (by omega)]; exact s9.2.2.1 k c k1 k2 c0 c1, fun k c k1 k2 c0 c1 => by rw [lo _ (by omega), lo _ (by omega)]; exact s9.2.2.2 k c k1 k2 c0 c1⟩
      have m0 : ρ 92 0 = m := by rw [lo 92 (by decide)]; exact s10
      have new : zLR ρ (59 + 7 * (n : Int)) (fun i => ρ 1322 (480 + 900 * (n : Int) + i)) := hL.2.2.2 ρ ρ 92 (59 + 7 * (n : Int)) _ D2.1 D2.2.1 D2.2.2.1 D2.2.2.2 ⟨g', wt', ws', C2, by rw [m0]; exact r8, by rw [m0]; exact s12⟩
      refine h.law9 hL ⟨by rw [lo 0 (by decide)]; exact s2, r2⟩ (by rw [lo 0 (by decide), s3, r3']) (by rw [lo 0 (by decide), s4, r4]) (by rw [g 103 (by decide) (by decide) (by decide) (by omega) (by decide) (by decide) (by decide) (by decide), g 1321 (by decide) (by decide) (by decide) (by omega) (by decide) (by decide) (by decide) (by decide)]; exact inv5) (by rw [r5, sb 1320 (by decide)]) ⟨g 89 (by decide) (by decide) (by decide) (by omega) (by decide) (by decide) (by decide) (by decide), g 1325 (by decide) (by decide) (by decide) (by omega) (by decide) (by decide) (by decide) (by decide), g 88 (by decide) (by decide) (by decide) (by omega) (by decide) (by decide) (by decide) (by decide), g 1324 (by decide) (by decide) (by decide) (by omega) (by decide) (by decide) (by decide) (by decide), g 1323 (by decide) (by decide) (by decide) (by omega) (by decide) (by decide) (by decide) (by decide), g 100 (by decide) (by decide) (by decide) (by omega) (by decide) (by decide) (by decide) (by decide), g 1342 (by decide) (by decide) (by decide) (by omega) (by decide) (by decide) (by decide) (by decide)⟩ (fun b b0 b1 => g b (by omega) (by omega) (by omega) (by omega) (by omega) (by omega) (by omega) (by omega)) ⟨fun i hv hu => ?_, ?_, fun k k0 k1 => ?_, ?_⟩
      · -- the room's places
        have i480 := zvl_480 hv
        by_cases e3 : i = 3
        · subst e3
          show ρ (1 + 0) 7 = ρ 1322 3
          rw [r6, lo (1 + 0) (by decide)]
          exact s6
        by_cases en : i = 212 + n
        · subst en
          have := zla_9 (212 + n) i480 (by
            have : ∀ n : Nat, n < 4 → (zla (212 + n)).1 = 9 := by decide
            exact this n n4)
          have e9 : (zla (212 + n)).1 = 9 := by
            have : ∀ n : Nat, n < 4 → (zla (212 + n)).1 = 9 := by decide
            exact this n n4
          rw [e9, this.2.2]
          show ρ (1 + 9) ((212 + n - 212 : Nat) : Int) = ρ 1322 ((212 + n : Nat) : Int)
          rw [show 212 + n - 212 = n by omega, row _ (by omega) (by omega), lo (1 + 9) (by decide)]
          have w := (hRB.2.2.2.2.2.2.2.2.2.2.2.2.2.2.1 ((212 + n : Nat) : Int) (by omega) (by omega)).2.2 (by omega)
          rw [w]
          exact s8
        · rw [row i (by omega) (by omega)]
          have hu' : zU (μ 1322) i := by
            obtain ⟨u1, u2, u3, u4⟩ := hu
            refine ⟨fun a b => ?_, fun a b => ?_, fun a b => ?_, fun a => ?_⟩
            · have := u1 a b; omega
            · have := u2 a b; rw [row 4 (by decide) (by decide)] at this; exact this
            · have := u3 a b; rw [row 5 (by decide) (by decide)] at this; exact this
            · have := u4 a; rw [row 6 (by decide) (by decide)] at this; exact this
          rw [← hRR i hv hu', lo _ (by have := hv; unfold zvl at this; omega)]
          have hv' : (zla i).1 < 58 := hv
          by_cases c0 : (zla i).1 = 0
          · have n7 : (zla i).2 ≠ 7 := fun z => e3 (zla_7 i i480 (by rw [← c0, ← z]))
            rw [c0]
            exact s5 _ (by omega)
          by_cases c9 : (zla i).1 = 9
          · have z9 := zla_9 i i480 c9
            rw [c9]
            exact s7 _ (by omega)
          · rw [s1 _ (by omega) (by omega) (by omega) (by omega) (by omega)]
      · -- bounds
        obtain ⟨q1, q2, q3, q4, q5, q6, q7, q8, q9, q10, q11, q12, q13, q14, q15, q16, q17, q18⟩ := hRB
        refine ⟨by rw [row 0 (by decide) (by decide)]; exact q1, by rw [row 1 (by decide) (by decide), r6]; omega, by rw [row 2 (by decide) (by decide)]; exact q3, by rw [r6]; omega, by rw [row 4 (by decide) (by decide)]; exact q5, by rw [row 5 (by decide) (by decide)]; exact q6, by rw [row 6 (by decide) (by decide)]; exact q7, fun i a b => by rw [row i (by omega) (by omega)]; exact q8 i a b, fun i a b => by rw [row i (by omega) (by omega)]; exact q9 i a b, fun i a b => by rw [row i (by omega) (by omega)]; exact q10 i a b, fun i a b => by rw [row i (by omega) (by omega)]; exact q11 i a b, fun i a b => by rw [row i (by omega) (by omega)]; exact q12 i a b, fun i a b => by rw [row i (by omega) (by omega)]; exact q13 i a b, fun i a b => by rw [row i (by omega) (by omega)]; exact q14 i a b, fun i a b => ?_, fun i a b => ?_, fun i a b => ?_, fun i a b => ?_⟩
        · rw [row i (by omega) (by omega)]
          have := q15 i a b
          exact ⟨this.1, this.2.1, fun z => this.2.2 (by rw [r6] at z; omega)⟩
        · rw [row 4 (by decide) (by decide)] at b
          rw [row i (by omega) (by omega)]; exact q16 i a b
        · rw [row 5 (by decide) (by decide)] at b
          rw [row i (by omega) (by omega)]; exact q17 i a b
        · rw [row 6 (by decide) (by decide)] at b
          rw [row i (by omega) (by omega)]; exact q18 i a b
      · -- the laws
        rw [r6] at k1
        by_cases ek : k = n
        · subst ek
          have e58 : (1 : Int) + 58 + 7 * (n : Int) = 59 + 7 * (n : Int) := by omega
          rw [e58]
          exact new
        · have old := hLL k k0 (by omega)
          refine hL.2.1 ρ _ _ _ (fun i i0 i1 => ?_) (hL.1 μ ρ _ _ (fun b b0 b1 => ?_) old)
          · show ρ 1322 (480 + 900 * k + i) = μ 1322 (480 + 900 * k + i)
            rw [r7 _ (by omega) (by omega), sb 1322 (by decide)]
          · exact g b (by omega) (by omega) (by omega) (by omega) (by omega) (by omega) (by omega) (by omega)
      · have e11 : (1 : Int) + 10 = 11 := by decide
        rw [g (1 + 10) (by decide) (by decide) (by decide) (by omega) (by decide) (by decide) (by decide) (by decide), g (1 + 14) (by decide) (by decide) (by decide) (by omega) (by decide) (by decide) (by decide) (by decide), g (1 + 18) (by decide) (by decide) (by decide) (by omega) (by decide) (by decide) (by decide) (by decide)]
        exact hRw
end

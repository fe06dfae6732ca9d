/-! trial street window: rows noted down -/
section
variable {LR : zM → Int → (Int → Int) → Prop} {μ : zM} {X : zX} {l : Launch} {d : Nat} {Q : Int → Int → zM → Prop}
theorem zl_trial : ∀ i, i < 8 → ∀ w, w < 2 → zla (216 + 2 * i + w) = (11 + w, i) := by decide +kernel
def zapp_trial (ρ : Int → Int) (n x y : Int) : Int → Int := zrw (zrw (zrw ρ (216 + 2 * n) x) (216 + 2 * n + 1) y) 4 (n + 1)
theorem zRB.trial {ρ : Int → Int} (h : zRB ρ) {n x y : Int} (hn : ρ 4 = n) (h0 : 0 ≤ n) (h1 : n < 8) (hv : 0 ≤ x ∧ x < 6 ∧ 0 ≤ y ∧ y ≤ 1) : zRB (zapp_trial ρ n x y) := by
  obtain ⟨h0, h1, h2, h3, h4, h5, h6, h7, h8, h9, h10, h11, h12, h13, h14, h15, h16, h17⟩ := h
  have ex : ∀ i : Int, i < 216 → i ≠ 4 → zapp_trial ρ n x y i = ρ i := fun i a b => by
    unfold zapp_trial zrw
    rw [if_neg b, if_neg (by omega), if_neg (by omega)]
  have ec : zapp_trial ρ n x y 4 = n + 1 := by unfold zapp_trial zrw; rw [if_pos rfl]
  have eo : ∀ i : Int, 216 ≤ i → ¬ (216 + 2 * n ≤ i ∧ i < 216 + 2 * n + 2) → zapp_trial ρ n x y i = ρ i := fun i a b => by
    unfold zapp_trial zrw
    rw [if_neg (by omega), if_neg (by omega), if_neg (by omega)]
  have fx : zapp_trial ρ n x y (216 + 2 * n) = x := by
    unfold zapp_trial zrw
    rw [if_neg (by omega), if_neg (by omega), if_pos rfl]
  have fy : zapp_trial ρ n x y (216 + 2 * n + 1) = y := by
    unfold zapp_trial zrw
    rw [if_neg (by omega), if_pos rfl]
  unfold zRB
  rw [ex 0 (by omega) (by omega), ex 1 (by omega) (by omega), ex 2 (by omega) (by omega), ex 3 (by omega) (by omega), ex 5 (by omega) (by omega), ex 6 (by omega) (by omega), ec]
  refine ⟨h0, h1, h2, h3, ⟨by omega, by omega⟩, h5, h6, fun i a b => ?_, fun i a b => ?_, fun i a b => ?_, fun i a b => ?_, fun i a b => ?_, fun i a b => ?_, fun i a b => ?_, fun i a b => ?_, fun i a b => ?_, fun i a b => ?_, fun i a b => ?_⟩
  · rw [ex i (by omega) (by omega)]; exact h7 i a b
  · rw [ex i (by omega) (by omega)]; exact h8 i a b
  · rw [ex i (by omega) (by omega)]; exact h9 i a b
  · rw [ex i (by omega) (by omega)]; exact h10 i a b
  · rw [ex i (by omega) (by omega)]; exact h11 i a b
  · rw [ex i (by omega) (by omega)]; exact h12 i a b
  · rw [ex i (by omega) (by omega)]; exact h13 i a b
  · rw [ex i (by omega) (by omega)]; exact h14 i a b
  · by_cases q : 216 + 2 * n ≤ i
    · rcases (show i = 216 + 2 * n ∨ i = 216 + 2 * n + 1 by omega) with rfl | rfl
      · rw [fx, if_pos (by omega)]; omega
      · rw [fy, if_neg (by omega)]; omega
    · rw [eo i (by omega) (by omega)]; exact h15 i a (by omega)
  · rw [eo i (by omega) (by omega)]; exact h16 i a b
  · rw [eo i (by omega) (by omega)]; exact h17 i a b
theorem k_S_trial {x y : Int} {Q : Int → zM → Prop} (hd : 3 ≤ d) (hr : μ 11 1 = 8) (hm : 0 ≤ μ 11 0) (h1 : 0 ≤ x → x < 6 → 0 ≤ y → y ≤ 1 → μ 11 0 < 8 → Q (μ 11 0) (sok (zup (zup (zup (zup μ 12 (μ 11 0) x) 13 (μ 11 0) y) 14 (μ 11 0) 0) 11 0 (μ 11 0 + 1)))) (h0 : ¬ (0 ≤ x ∧ x < 6 ∧ 0 ≤ y ∧ y ≤ 1) → Q (-1) (sref μ (-1) 0)) (h5 : 0 ≤ x ∧ x < 6 ∧ 0 ≤ y ∧ y ≤ 1 → ¬ μ 11 0 < 8 → Q (-5) (sref μ (-5) 2)) : zCi X true l d 0 0 y_S_trial [(12, 0, 0), (0, 0, x), (0, 0, y)] μ Q := by
  exact c_S_trial (d1 := 2) (by omega) (k_S_isPlan (fun p0 p1 => ⟨fun c => absurd c (by decide), fun _ => k_S_within (fun p2 p3 => ⟨fun _ => k_S_noteDown (L := 8) (a := 11) (by omega) (by omega) hr hm (h1 p0 p1 p2 p3) (h5 ⟨p0, p1, p2, p3⟩), fun c => absurd c (by decide)⟩) (fun p => ⟨fun c => absurd rfl c, fun _ => k_S_refuse1 (h0 (by omega))⟩)⟩) (fun p => ⟨fun _ => k_S_refuse1 (h0 (by omega)), fun c => absurd rfl c⟩))
theorem k_M_trial {x y : Int} {Q : Int → zM → Prop} (hd : 3 ≤ d) (hm : 0 ≤ μ 1322 4 ∧ μ 1322 4 ≤ 8) (h1 : 0 ≤ x → x < 6 → 0 ≤ y → y ≤ 1 → μ 1322 4 < 8 → Q (μ 1322 4) (mok (zup (zup (zup (zup μ 1320 0 0) 1322 (216 + 2 * μ 1322 4) x) 1322 (216 + 2 * μ 1322 4 + 1) y) 1322 4 (μ 1322 4 + 1)))) (h0 : ¬ (0 ≤ x ∧ x < 6 ∧ 0 ≤ y ∧ y ≤ 1) → Q (-1) (mref (zup μ 1320 0 0) (-1))) (h5 : 0 ≤ x ∧ x < 6 ∧ 0 ≤ y ∧ y ≤ 1 → ¬ μ 1322 4 < 8 → Q (-5) (mref (zup μ 1320 0 0) (-5))) : zCi X true l d 0 0 y_M_trial [(13, 0, 1320), (0, 0, x), (0, 0, y)] μ Q := by
  have e0 : (zup μ 1320 0 0) (1320 + 2) 4 = μ 1322 4 := by
    rw [zup_ne (by decide)]; rfl
  have e1 : ∀ q0 w0 : Int, q0 ≠ 4 → (zup (zup μ 1320 0 0) (1320 + 2) q0 w0) (1320 + 2) 4 = μ 1322 4 := fun q0 w0 g0 => by
    rw [zup_miss (fun q => g0 q.2.symm), zup_ne (by decide)]; rfl
  have e2 : ∀ q0 w0 q1 w1 : Int, q0 ≠ 4 → q1 ≠ 4 → (zup (zup (zup μ 1320 0 0) (1320 + 2) q0 w0) (1320 + 2) q1 w1) (1320 + 2) 4 = μ 1322 4 := fun q0 w0 q1 w1 g0 g1 => by
    rw [zup_miss (fun q => g1 q.2.symm), zup_miss (fun q => g0 q.2.symm), zup_ne (by decide)]; rfl
  refine c_M_trial (d1 := 2) (by omega) (k_M_isPlan (by omega) (fun p0 p1 => ⟨fun c => absurd c (by decide), fun _ => k_M_in (fun p2 p3 => ⟨fun _ => ⟨fun c => ?_, fun c => k_M_telln (by decide) (h5 ⟨p0, p1, p2, p3⟩ (by rw [e0] at c; omega))⟩, fun c => absurd c (by decide)⟩) (fun p => ⟨fun c => absurd rfl c, fun _ => k_M_telln (by decide) (h0 (by omega))⟩)⟩) (fun p => ⟨fun _ => k_M_telln (by decide) (h0 (by omega)), fun c => absurd rfl c⟩))
  rw [e0] at c
  rw [e0, zw_of (x := 2 * μ 1322 4) (by omega) (by omega), zw_of (x := 216 + 2 * μ 1322 4) (by omega) (by omega)]
  rw [e1 _ _ (by omega), zw_of (x := 2 * μ 1322 4) (by omega) (by omega), zw_of (x := 216 + 2 * μ 1322 4) (by omega) (by omega)]
  rw [zw_of (x := 216 + 2 * μ 1322 4 + 1) (by omega) (by omega)]
  rw [e2 _ _ _ _ (by omega) (by omega), zw_of (x := μ 1322 4 + 1) (by omega) (by omega), zup_hit, zw_of (x := μ 1322 4 + 1 - 1) (by omega) (by omega)]
  have e : μ 1322 4 + 1 - 1 = μ 1322 4 := by omega
  rw [e]
  exact ⟨⟨by omega, by omega⟩, ⟨by omega, by omega⟩, k_M_tellp (by omega) (h1 p0 p1 p2 p3 (by omega))⟩
theorem p_trial {x y : Int} (hL : zLRok LR) (h : zInv LR μ) (hd : 3 ≤ d) (hQ : ∀ v ρ, zInv LR ρ → Q v v ρ) : zCi X true l d 0 0 y_S_trial [(12, 0, 0), (0, 0, x), (0, 0, y)] μ (fun v ν => zCi X true l d 0 0 y_M_trial [(13, 0, 1320), (0, 0, x), (0, 0, y)] ν (fun w ρ => Q v w ρ)) := by
  have hRB := h.2.2.2.2.2.1.2.1
  have hb := hRB.2.2.2.2.1
  have hn : μ 11 0 = μ 1322 4 := by
    have := h.num 4 (by omega) (a := 10) (s := 0) (by decide) (by omega)
    exact this
  have er : ∀ x y z w n: Int, sok (zup (zup (zup (zup μ 12 n x) 13 n y) 14 n z) 11 0 w) 1322 = μ 1322 := fun x y z w n => by
    unfold sok
    rw [zup_ne (by decide), zup_ne (by decide), zup_ne (by decide), zup_ne (by decide), zup_ne (by decide)]
  refine k_S_trial hd h.2.2.2.2.2.1.2.2.2.1 (by omega) (fun a0 a1 a2 a3 a9 => k_M_trial hd (by rw [er]; exact hb) (fun _ _ _ _ _ => ?_) (fun c => absurd ⟨a0, a1, a2, a3⟩ c) (fun _ c => absurd (by rw [er]; omega) c)) (fun c => k_M_trial hd (by rw [sref_row]; exact hb) (fun a0 a1 a2 a3 => absurd ⟨a0, a1, a2, a3⟩ c) (fun _ => hQ _ _ (h.ref hL (by omega))) (fun q => absurd q c)) (fun c a9 => k_M_trial hd (by rw [sref_row]; exact hb) (fun _ _ _ _ q => absurd (by rw [sref_row] at q; omega) a9) (fun q => absurd c q) (fun _ _ => hQ _ _ (h.ref hL (by omega))))
  rw [er, hn]
  obtain ⟨n, e⟩ : ∃ n : Nat, μ 1322 4 = n := ⟨(μ 1322 4).toNat, by omega⟩
  rw [e]
  have hlt : n < 8 := by omega
  have hB : zRB (zapp_trial (μ 1322) n x y) := hRB.trial e (by omega) (by omega) (by omega)
  have r0 := h.2.2.2.2.2.1.1
  have l0 := zl_trial n hlt 0 (by omega)
  have r1 := r0.up (k := 216 + 2 * n + 0) (v := x) (a := 12) (s := n) (by unfold zvl; rw [l0]; show 11 + 0 < 58; omega) (by rw [l0]; rfl) (by rw [l0])
  have l1 := zl_trial n hlt 1 (by omega)
  have r2 := r1.up (k := 216 + 2 * n + 1) (v := y) (a := 13) (s := n) (by unfold zvl; rw [l1]; show 11 + 1 < 58; omega) (by rw [l1]; rfl) (by rw [l1])
  have r3 := r2.skip (a := 14) (c := 13) (s := n) (v := 0) (by omega) (fun i hi q => zla_13 i (zvl_lt hi) (by omega))
  have r4 := r3.up (k := 4) (v := (n : Int) + 1) (a := 11) (s := 0) (by unfold zvl; decide) (by decide) (by decide)
  have hR : zRoom LR (zup (zup (zup (zup μ 12 n x) 13 n y) 14 n 0) 11 0 (n + 1)) 1 (zapp_trial (μ 1322) n x y) := by
    have ex : ∀ i : Int, i ≠ 4 → ¬ (216 + 2 * (n : Int) ≤ i ∧ i < 216 + 2 * (n : Int) + 2) → zapp_trial (μ 1322) n x y i = μ 1322 i := fun i a b => by
      unfold zapp_trial zrw
      rw [if_neg a, if_neg (by omega), if_neg (by omega)]
    have ec : zapp_trial (μ 1322) n x y 4 = n + 1 := by unfold zapp_trial zrw; rw [if_pos rfl]
    refine ⟨?_, hB, fun k q1 q2 => ?_, ?_, ?_, ?_⟩
    · rw [show ((216 + 2 * n + 0 : Nat) : Int) = 216 + 2 * (n : Int) by omega, show ((216 + 2 * n + 1 : Nat) : Int) = 216 + 2 * (n : Int) + 1 by omega] at r4
      refine r4.sub (V := zU (zapp_trial (μ 1322) n x y)) (fun i hi hv => ?_)
      · unfold zU at hv ⊢
        rw [ex 3 (by omega) (by omega), ex 5 (by omega) (by omega), ex 6 (by omega) (by omega), ec] at hv
        have := zvl_lt hi
        omega
    · rw [ex 3 (by omega) (by omega)] at q2
      refine hL.2.1 _ _ _ _ (fun i p1 p2 => ex _ (by omega) (by omega)) (hL.1 μ _ _ _ (fun c p1 p2 => ?_) (h.2.2.2.2.2.1.2.2.1 k q1 q2))
      rw [zup_ne (by omega), zup_ne (by omega), zup_ne (by omega), zup_ne (by omega)]
    · have := h.2.2.2.2.2.1.2.2.2.1
      refine Eq.trans ?_ this
      rw [zup_miss (by omega), zup_miss (by omega), zup_miss (by omega), zup_miss (by omega)]
    · have := h.2.2.2.2.2.1.2.2.2.2.1
      refine Eq.trans ?_ this
      rw [zup_miss (by omega), zup_miss (by omega), zup_miss (by omega), zup_miss (by omega)]
    · have := h.2.2.2.2.2.1.2.2.2.2.2
      refine Eq.trans ?_ this
      rw [zup_miss (by omega), zup_miss (by omega), zup_miss (by omega), zup_miss (by omega)]
  refine hQ _ _ (h.room hL (μ1 := zup (zup (zup (zup μ 12 n x) 13 n y) 14 n 0) 11 0 (n + 1)) (fun b hb => ?_) hR (fun b q1 q2 q3 => ?_) (fun j' hj => ?_) (fun j' q1 q2 => ?_) ?_ ?_)
  · rw [zup_ne (by omega), zup_ne (by omega), zup_ne (by omega), zup_ne (by omega)]
  · unfold mok sok
    rw [zup_ne q2, zup_ne q3, zup_ne q3, zup_ne q3, zup_ne q2, zup_ne q1]
  · unfold mok sok
    rw [zup_ne (by decide), zup_ne (by decide), zup_ne (by decide), zup_ne (by decide), zup_ne (by decide), zup_miss (by omega), zup_ne (by decide), zup_ne (by decide), zup_ne (by decide), zup_ne (by decide)]
  · unfold mok sok
    rw [zup_miss (by omega), zup_ne (by decide), zup_ne (by decide), zup_ne (by decide), zup_miss (by omega), zup_ne (by decide), zup_ne (by decide), zup_ne (by decide), zup_ne (by decide), zup_ne (by decide)]
  · unfold mok sok
    rw [zup_hit, zup_ne (by decide), zup_ne (by decide), zup_ne (by decide), zup_ne (by decide), zup_ne (by decide), zup_hit]
  · unfold mok
    rw [zup_ne (by decide), zup_at, zup_at, zup_at, zup_ne (by decide), er]
    rfl
theorem zl_street : ∀ i, i < 40 → ∀ w, w < 3 → zla (240 + 3 * i + w) = (15 + w, i) := by decide +kernel
def zapp_street (ρ : Int → Int) (n x y z : Int) : Int → Int := zrw (zrw (zrw (zrw ρ (240 + 3 * n) x) (240 + 3 * n + 1) y) (240 + 3 * n + 2) z) 5 (n + 1)
theorem zRB.street {ρ : Int → Int} (h : zRB ρ) {n x y z : Int} (hn : ρ 5 = n) (h0 : 0 ≤ n) (h1 : n < 40) (hv : 0 ≤ x ∧ x ≤ 7 ∧ 1 ≤ y ∧ y ≤ 99 ∧ 0 ≤ z ∧ z ≤ 1) : zRB (zapp_street ρ n x y z) := by
  obtain ⟨h0, h1, h2, h3, h4, h5, h6, h7, h8, h9, h10, h11, h12, h13, h14, h15, h16, h17⟩ := h
  have ex : ∀ i : Int, i < 216 → i ≠ 5 → zapp_street ρ n x y z i = ρ i := fun i a b => by
    unfold zapp_street zrw
    rw [if_neg b, if_neg (by omega), if_neg (by omega), if_neg (by omega)]
  have ec : zapp_street ρ n x y z 5 = n + 1 := by unfold zapp_street zrw; rw [if_pos rfl]
  have eo : ∀ i : Int, 216 ≤ i → ¬ (240 + 3 * n ≤ i ∧ i < 240 + 3 * n + 3) → zapp_street ρ n x y z i = ρ i := fun i a b => by
    unfold zapp_street zrw
    rw [if_neg (by omega), if_neg (by omega), if_neg (by omega), if_neg (by omega)]
  have fx : zapp_street ρ n x y z (240 + 3 * n) = x := by
    unfold zapp_street zrw
    rw [if_neg (by omega), if_neg (by omega), if_neg (by omega), if_pos rfl]
  have fy : zapp_street ρ n x y z (240 + 3 * n + 1) = y := by
    unfold zapp_street zrw
    rw [if_neg (by omega), if_neg (by omega), if_pos rfl]
  have fz : zapp_street ρ n x y z (240 + 3 * n + 2) = z := by
    unfold zapp_street zrw
    rw [if_neg (by omega), if_pos rfl]
  unfold zRB
  rw [ex 0 (by omega) (by omega), ex 1 (by omega) (by omega), ex 2 (by omega) (by omega), ex 3 (by omega) (by omega), ex 4 (by omega) (by omega), ex 6 (by omega) (by omega), ec]
  refine ⟨h0, h1, h2, h3, h4, ⟨by omega, by omega⟩, h6, fun i a b => ?_, fun i a b => ?_, fun i a b => ?_, fun i a b => ?_, fun i a b => ?_, fun i a b => ?_, fun i a b => ?_, fun i a b => ?_, fun i a b => ?_, fun i a b => ?_, fun i a b => ?_⟩
  · rw [ex i (by omega) (by omega)]; exact h7 i a b
  · rw [ex i (by omega) (by omega)]; exact h8 i a b
  · rw [ex i (by omega) (by omega)]; exact h9 i a b
  · rw [ex i (by omega) (by omega)]; exact h10 i a b
  · rw [ex i (by omega) (by omega)]; exact h11 i a b
  · rw [ex i (by omega) (by omega)]; exact h12 i a b
  · rw [ex i (by omega) (by omega)]; exact h13 i a b
  · rw [ex i (by omega) (by omega)]; exact h14 i a b
  · rw [eo i (by omega) (by omega)]; exact h15 i a b
  · by_cases q : 240 + 3 * n ≤ i
    · rcases (show i = 240 + 3 * n ∨ i = 240 + 3 * n + 1 ∨ i = 240 + 3 * n + 2 by omega) with rfl | rfl | rfl
      · rw [fx, if_pos (by omega)]; exact ⟨by omega, by omega, fun _ => by omega⟩
      · rw [fy, if_neg (by omega), if_pos (by omega)]; exact ⟨by omega, by omega, fun _ => by omega⟩
      · rw [fz, if_neg (by omega), if_neg (by omega)]; exact ⟨by omega, by omega, fun _ => by omega⟩
    · rw [eo i (by omega) (by omega)]; exact h16 i a (by omega)
  · rw [eo i (by omega) (by omega)]; exact h17 i a b
theorem k_S_street {x y z : Int} {Q : Int → zM → Prop} (hd : 3 ≤ d) (hr : μ 15 1 = 40) (hm : 0 ≤ μ 15 0) (h1 : 0 ≤ x → x ≤ 7 → 1 ≤ y → y ≤ 99 → 0 ≤ z → z ≤ 1 → μ 15 0 < 40 → Q (μ 15 0) (sok (zup (zup (zup (zup μ 16 (μ 15 0) x) 17 (μ 15 0) y) 18 (μ 15 0) z) 15 0 (μ 15 0 + 1)))) (h0 : ¬ (0 ≤ x ∧ x ≤ 7 ∧ 1 ≤ y ∧ y ≤ 99 ∧ 0 ≤ z ∧ z ≤ 1) → Q (-1) (sref μ (-1) 0)) (h5 : 0 ≤ x ∧ x ≤ 7 ∧ 1 ≤ y ∧ y ≤ 99 ∧ 0 ≤ z ∧ z ≤ 1 → ¬ μ 15 0 < 40 → Q (-5) (sref μ (-5) 2)) : zCi X true l d 0 0 y_S_street [(12, 0, 0), (0, 0, x), (0, 0, y), (0, 0, z)] μ Q := by
  exact c_S_street (d1 := 2) (by omega) (k_S_within (fun p0 p1 => ⟨fun c => absurd c (by decide), fun _ => k_S_within (fun p2 p3 => ⟨fun c => absurd c (by decide), fun _ => k_S_within (fun p4 p5 => ⟨fun _ => k_S_noteDown (L := 40) (a := 15) (by omega) (by omega) hr hm (h1 p0 p1 p2 p3 p4 p5) (h5 ⟨p0, p1, p2, p3, p4, p5⟩), fun c => absurd c (by decide)⟩) (fun p => ⟨fun c => absurd rfl c, fun _ => k_S_refuse1 (h0 (by omega))⟩)⟩) (fun p => ⟨fun _ => k_S_refuse1 (h0 (by omega)), fun c => absurd rfl c⟩)⟩) (fun p => ⟨fun _ => k_S_refuse1 (h0 (by omega)), fun c => absurd rfl c⟩))
theorem k_M_street {x y z : Int} {Q : Int → zM → Prop} (hd : 3 ≤ d) (hm : 0 ≤ μ 1322 5 ∧ μ 1322 5 ≤ 40) (h1 : 0 ≤ x → x ≤ 7 → 1 ≤ y → y ≤ 99 → 0 ≤ z → z ≤ 1 → μ 1322 5 < 40 → Q (μ 1322 5) (mok (zup (zup (zup (zup (zup μ 1320 0 0) 1322 (240 + 3 * μ 1322 5) x) 1322 (240 + 3 * μ 1322 5 + 1) y) 1322 (240 + 3 * μ 1322 5 + 2) z) 1322 5 (μ 1322 5 + 1)))) (h0 : ¬ (0 ≤ x ∧ x ≤ 7 ∧ 1 ≤ y ∧ y ≤ 99 ∧ 0 ≤ z ∧ z ≤ 1) → Q (-1) (mref (zup μ 1320 0 0) (-1))) (h5 : 0 ≤ x ∧ x ≤ 7 ∧ 1 ≤ y ∧ y ≤ 99 ∧ 0 ≤ z ∧ z ≤ 1 → ¬ μ 1322 5 < 40 → Q (-5) (mref (zup μ 1320 0 0) (-5))) : zCi X true l d 0 0 y_M_street [(13, 0, 1320), (0, 0, x), (0, 0, y), (0, 0, z)] μ Q := by
  have e0 : (zup μ 1320 0 0) (1320 + 2) 5 = μ 1322 5 := by
    rw [zup_ne (by decide)]; rfl
  have e1 : ∀ q0 w0 : Int, q0 ≠ 5 → (zup (zup μ 1320 0 0) (1320 + 2) q0 w0) (1320 + 2) 5 = μ 1322 5 := fun q0 w0 g0 => by
    rw [zup_miss (fun q => g0 q.2.symm), zup_ne (by decide)]; rfl
  have e2 : ∀ q0 w0 q1 w1 : Int, q0 ≠ 5 → q1 ≠ 5 → (zup (zup (zup μ 1320 0 0) (1320 + 2) q0 w0) (1320 + 2) q1 w1) (1320 + 2) 5 = μ 1322 5 := fun q0 w0 q1 w1 g0 g1 => by
    rw [zup_miss (fun q => g1 q.2.symm), zup_miss (fun q => g0 q.2.symm), zup_ne (by decide)]; rfl
  have e3 : ∀ q0 w0 q1 w1 q2 w2 : Int, q0 ≠ 5 → q1 ≠ 5 → q2 ≠ 5 → (zup (zup (zup (zup μ 1320 0 0) (1320 + 2) q0 w0) (1320 + 2) q1 w1) (1320 + 2) q2 w2) (1320 + 2) 5 = μ 1322 5 := fun q0 w0 q1 w1 q2 w2 g0 g1 g2 => by
    rw [zup_miss (fun q => g2 q.2.symm), zup_miss (fun q => g1 q.2.symm), zup_miss (fun q => g0 q.2.symm), zup_ne (by decide)]; rfl
  refine c_M_street (d1 := 2) (by omega) (k_M_in (fun p0 p1 => ⟨fun c => absurd c (by decide), fun _ => k_M_in (fun p2 p3 => ⟨fun c => absurd c (by decide), fun _ => k_M_in (fun p4 p5 => ⟨fun _ => ⟨fun c => ?_, fun c => k_M_telln (by decide) (h5 ⟨p0, p1, p2, p3, p4, p5⟩ (by rw [e0] at c; omega))⟩, fun c => absurd c (by decide)⟩) (fun p => ⟨fun c => absurd rfl c, fun _ => k_M_telln (by decide) (h0 (by omega))⟩)⟩) (fun p => ⟨fun _ => k_M_telln (by decide) (h0 (by omega)), fun c => absurd rfl c⟩)⟩) (fun p => ⟨fun _ => k_M_telln (by decide) (h0 (by omega)), fun c => absurd rfl c⟩))
  rw [e0] at c
  rw [e0, zw_of (x := 3 * μ 1322 5) (by omega) (by omega), zw_of (x := 240 + 3 * μ 1322 5) (by omega) (by omega)]
  rw [zw_of (x := 240 + 3 * μ 1322 5 + 1) (by omega) (by omega), zw_of (x := 240 + 3 * μ 1322 5 + 2) (by omega) (by omega)]
  rw [e3 _ _ _ _ _ _ (by omega) (by omega) (by omega), zw_of (x := μ 1322 5 + 1) (by omega) (by omega), zup_hit, zw_of (x := μ 1322 5 + 1 - 1) (by omega) (by omega)]
  have e : μ 1322 5 + 1 - 1 = μ 1322 5 := by omega
  rw [e]
  exact ⟨⟨by omega, by omega⟩, ⟨by omega, by omega⟩, ⟨by omega, by omega⟩, k_M_tellp (by omega) (h1 p0 p1 p2 p3 p4 p5 (by omega))⟩
theorem p_street {x y z : Int} (hL : zLRok LR) (h : zInv LR μ) (hd : 3 ≤ d) (hQ : ∀ v ρ, zInv LR ρ → Q v v ρ) : zCi X true l d 0 0 y_S_street [(12, 0, 0), (0, 0, x), (0, 0, y), (0, 0, z)] μ (fun v ν => zCi X true l d 0 0 y_M_street [(13, 0, 1320), (0, 0, x), (0, 0, y), (0, 0, z)] ν (fun w ρ => Q v w ρ)) := by
  have hRB := h.2.2.2.2.2.1.2.1
  have hb := hRB.2.2.2.2.2.1
  have hn : μ 15 0 = μ 1322 5 := by
    have := h.num 5 (by omega) (a := 14) (s := 0) (by decide) (by omega)
    exact this
  have er : ∀ x y z w n: Int, sok (zup (zup (zup (zup μ 16 n x) 17 n y) 18 n z) 15 0 w) 1322 = μ 1322 := fun x y z w n => by
    unfold sok
    rw [zup_ne (by decide), zup_ne (by decide), zup_ne (by decide), zup_ne (by decide), zup_ne (by decide)]
  refine k_S_street hd h.2.2.2.2.2.1.2.2.2.2.1 (by omega) (fun a0 a1 a2 a3 a4 a5 a9 => k_M_street hd (by rw [er]; exact hb) (fun _ _ _ _ _ _ _ => ?_) (fun c => absurd ⟨a0, a1, a2, a3, a4, a5⟩ c) (fun _ c => absurd (by rw [er]; omega) c)) (fun c => k_M_street hd (by rw [sref_row]; exact hb) (fun a0 a1 a2 a3 a4 a5 => absurd ⟨a0, a1, a2, a3, a4, a5⟩ c) (fun _ => hQ _ _ (h.ref hL (by omega))) (fun q => absurd q c)) (fun c a9 => k_M_street hd (by rw [sref_row]; exact hb) (fun _ _ _ _ _ _ q => absurd (by rw [sref_row] at q; omega) a9) (fun q => absurd c q) (fun _ _ => hQ _ _ (h.ref hL (by omega))))
  rw [er, hn]
  obtain ⟨n, e⟩ : ∃ n : Nat, μ 1322 5 = n := ⟨(μ 1322 5).toNat, by omega⟩
  rw [e]
  have hlt : n < 40 := by omega
  have hB : zRB (zapp_street (μ 1322) n x y z) := hRB.street e (by omega) (by omega) (by omega)
  have r0 := h.2.2.2.2.2.1.1
  have l0 := zl_street n hlt 0 (by omega)
  have r1 := r0.up (k := 240 + 3 * n + 0) (v := x) (a := 16) (s := n) (by unfold zvl; rw [l0]; show 15 + 0 < 58; omega) (by rw [l0]; rfl) (by rw [l0])
  have l1 := zl_street n hlt 1 (by omega)
  have r2 := r1.up (k := 240 + 3 * n + 1) (v := y) (a := 17) (s := n) (by unfold zvl; rw [l1]; show 15 + 1 < 58; omega) (by rw [l1]; rfl) (by rw [l1])
  have l2 := zl_street n hlt 2 (by omega)
  have r3 := r2.up (k := 240 + 3 * n + 2) (v := z) (a := 18) (s := n) (by unfold zvl; rw [l2]; show 15 + 2 < 58; omega) (by rw [l2]; rfl) (by rw [l2])
  have r4 := r3.up (k := 5) (v := (n : Int) + 1) (a := 15) (s := 0) (by unfold zvl; decide) (by decide) (by decide)
  have hR : zRoom LR (zup (zup (zup (zup μ 16 n x) 17 n y) 18 n z) 15 0 (n + 1)) 1 (zapp_street (μ 1322) n x y z) := by
    have ex : ∀ i : Int, i ≠ 5 → ¬ (240 + 3 * (n : Int) ≤ i ∧ i < 240 + 3 * (n : Int) + 3) → zapp_street (μ 1322) n x y z i = μ 1322 i := fun i a b => by
      unfold zapp_street zrw
      rw [if_neg a, if_neg (by omega), if_neg (by omega), if_neg (by omega)]
    have ec : zapp_street (μ 1322) n x y z 5 = n + 1 := by unfold zapp_street zrw; rw [if_pos rfl]
    refine ⟨?_, hB, fun k q1 q2 => ?_, ?_, ?_, ?_⟩
    · rw [show ((240 + 3 * n + 0 : Nat) : Int) = 240 + 3 * (n : Int) by omega, show ((240 + 3 * n + 1 : Nat) : Int) = 240 + 3 * (n : Int) + 1 by omega, show ((240 + 3 * n + 2 : Nat) : Int) = 240 + 3 * (n : Int) + 2 by omega] at r4
      refine r4.sub (V := zU (zapp_street (μ 1322) n x y z)) (fun i hi hv => ?_)
      · unfold zU at hv ⊢
        rw [ex 3 (by omega) (by omega), ex 4 (by omega) (by omega), ex 6 (by omega) (by omega), ec] at hv
        have := zvl_lt hi
        omega
    · rw [ex 3 (by omega) (by omega)] at q2
      refine hL.2.1 _ _ _ _ (fun i p1 p2 => ex _ (by omega) (by omega)) (hL.1 μ _ _ _ (fun c p1 p2 => ?_) (h.2.2.2.2.2.1.2.2.1 k q1 q2))
      rw [zup_ne (by omega), zup_ne (by omega), zup_ne (by omega), zup_ne (by omega)]
    · have := h.2.2.2.2.2.1.2.2.2.1
      refine Eq.trans ?_ this
      rw [zup_miss (by omega), zup_miss (by omega), zup_miss (by omega), zup_miss (by omega)]
    · have := h.2.2.2.2.2.1.2.2.2.2.1
      refine Eq.trans ?_ this
      rw [zup_miss (by omega), zup_miss (by omega), zup_miss (by omega), zup_miss (by omega)]
    · have := h.2.2.2.2.2.1.2.2.2.2.2
      refine Eq.trans ?_ this
      rw [zup_miss (by omega), zup_miss (by omega), zup_miss (by omega), zup_miss (by omega)]
  refine hQ _ _ (h.room hL (μ1 := zup (zup (zup (zup μ 16 n x) 17 n y) 18 n z) 15 0 (n + 1)) (fun b hb => ?_) hR (fun b q1 q2 q3 => ?_) (fun j' hj => ?_) (fun j' q1 q2 => ?_) ?_ ?_)
  · rw [zup_ne (by omega), zup_ne (by omega), zup_ne (by omega), zup_ne (by omega)]
  · unfold mok sok
    rw [zup_ne q2, zup_ne q3, zup_ne q3, zup_ne q3, zup_ne q3, zup_ne q2, zup_ne q1]
  · unfold mok sok
    rw [zup_ne (by decide), zup_ne (by decide), zup_ne (by decide), zup_ne (by decide), zup_ne (by decide), zup_ne (by decide), zup_miss (by omega), zup_ne (by decide), zup_ne (by decide), zup_ne (by decide), zup_ne (by decide)]
  · unfold mok sok
    rw [zup_miss (by omega), zup_ne (by decide), zup_ne (by decide), zup_ne (by decide), zup_ne (by decide), zup_miss (by omega), zup_ne (by decide), zup_ne (by decide), zup_ne (by decide), zup_ne (by decide), zup_ne (by decide)]
  · unfold mok sok
    rw [zup_hit, zup_ne (by decide), zup_ne (by decide), zup_ne (by decide), zup_ne (by decide), zup_ne (by decide), zup_ne (by decide), zup_hit]
  · unfold mok
    rw [zup_ne (by decide), zup_at, zup_at, zup_at, zup_at, zup_ne (by decide), er]
    rfl
theorem zl_window : ∀ i, i < 40 → ∀ w, w < 3 → zla (360 + 3 * i + w) = (19 + w, i) := by decide +kernel
def zapp_window (ρ : Int → Int) (n x y z : Int) : Int → Int := zrw (zrw (zrw (zrw ρ (360 + 3 * n) x) (360 + 3 * n + 1) y) (360 + 3 * n + 2) z) 6 (n + 1)
theorem zRB.window {ρ : Int → Int} (h : zRB ρ) {n x y z : Int} (hn : ρ 6 = n) (h0 : 0 ≤ n) (h1 : n < 40) (hv : 0 ≤ x ∧ x ≤ 9 ∧ 0 ≤ y ∧ y ≤ 1 ∧ 0 ≤ z ∧ z ≤ 1) : zRB (zapp_window ρ n x y z) := by
  obtain ⟨h0, h1, h2, h3, h4, h5, h6, h7, h8, h9, h10, h11, h12, h13, h14, h15, h16, h17⟩ := h
  have ex : ∀ i : Int, i < 216 → i ≠ 6 → zapp_window ρ n x y z i = ρ i := fun i a b => by
    unfold zapp_window zrw
    rw [if_neg b, if_neg (by omega), if_neg (by omega), if_neg (by omega)]
  have ec : zapp_window ρ n x y z 6 = n + 1 := by unfold zapp_window zrw; rw [if_pos rfl]
  have eo : ∀ i : Int, 216 ≤ i → ¬ (360 + 3 * n ≤ i ∧ i < 360 + 3 * n + 3) → zapp_window ρ n x y z i = ρ i := fun i a b => by
    unfold zapp_window zrw
    rw [if_neg (by omega), if_neg (by omega), if_neg (by omega), if_neg (by omega)]
  have fx : zapp_window ρ n x y z (360 + 3 * n) = x := by
    unfold zapp_window zrw
    rw [if_neg (by omega), if_neg (by omega), if_neg (by omega), if_pos rfl]
  have fy : zapp_window ρ n x y z (360 + 3 * n + 1) = y := by
    unfold zapp_window zrw
    rw [if_neg (by omega), if_neg (by omega), if_pos rfl]
  have fz : zapp_window ρ n x y z (360 + 3 * n + 2) = z := by
    unfold zapp_window zrw
    rw [if_neg (by omega), if_pos rfl]
  unfold zRB
  rw [ex 0 (by omega) (by omega), ex 1 (by omega) (by omega), ex 2 (by omega) (by omega), ex 3 (by omega) (by omega), ex 4 (by omega) (by omega), ex 5 (by omega) (by omega), ec]
  refine ⟨h0, h1, h2, h3, h4, h5, ⟨by omega, by omega⟩, fun i a b => ?_, fun i a b => ?_, fun i a b => ?_, fun i a b => ?_, fun i a b => ?_, fun i a b => ?_, fun i a b => ?_, fun i a b => ?_, fun i a b => ?_, fun i a b => ?_, fun i a b => ?_⟩
  · rw [ex i (by omega) (by omega)]; exact h7 i a b
  · rw [ex i (by omega) (by omega)]; exact h8 i a b
  · rw [ex i (by omega) (by omega)]; exact h9 i a b
  · rw [ex i (by omega) (by omega)]; exact h10 i a b
  · rw [ex i (by omega) (by omega)]; exact h11 i a b
  · rw [ex i (by omega) (by omega)]; exact h12 i a b
  · rw [ex i (by omega) (by omega)]; exact h13 i a b
  · rw [ex i (by omega) (by omega)]; exact h14 i a b
  · rw [eo i (by omega) (by omega)]; exact h15 i a b
  · rw [eo i (by omega) (by omega)]; exact h16 i a b
  · by_cases q : 360 + 3 * n ≤ i
    · rcases (show i = 360 + 3 * n ∨ i = 360 + 3 * n + 1 ∨ i = 360 + 3 * n + 2 by omega) with rfl | rfl | rfl
      · rw [fx, if_pos (by omega)]; omega
      · rw [fy, if_neg (by omega)]; omega
      · rw [fz, if_neg (by omega)]; omega
    · rw [eo i (by omega) (by omega)]; exact h17 i a (by omega)
theorem k_S_window {x y z : Int} {Q : Int → zM → Prop} (hd : 3 ≤ d) (hr : μ 19 1 = 40) (hm : 0 ≤ μ 19 0) (h1 : 0 ≤ x → x ≤ 9 → 0 ≤ y → y ≤ 1 → 0 ≤ z → z ≤ 1 → μ 19 0 < 40 → Q (μ 19 0) (sok (zup (zup (zup (zup μ 20 (μ 19 0) x) 21 (μ 19 0) y) 22 (μ 19 0) z) 19 0 (μ 19 0 + 1)))) (h0 : ¬ (0 ≤ x ∧ x ≤ 9 ∧ 0 ≤ y ∧ y ≤ 1 ∧ 0 ≤ z ∧ z ≤ 1) → Q (-1) (sref μ (-1) 0)) (h5 : 0 ≤ x ∧ x ≤ 9 ∧ 0 ≤ y ∧ y ≤ 1 ∧ 0 ≤ z ∧ z ≤ 1 → ¬ μ 19 0 < 40 → Q (-5) (sref μ (-5) 2)) : zCi X true l d 0 0 y_S_window [(12, 0, 0), (0, 0, x), (0, 0, y), (0, 0, z)] μ Q := by
  exact c_S_window (d1 := 2) (by omega) (k_S_within (fun p0 p1 => ⟨fun c => absurd c (by decide), fun _ => k_S_within (fun p2 p3 => ⟨fun c => absurd c (by decide), fun _ => k_S_within (fun p4 p5 => ⟨fun _ => k_S_noteDown (L := 40) (a := 19) (by omega) (by omega) hr hm (h1 p0 p1 p2 p3 p4 p5) (h5 ⟨p0, p1, p2, p3, p4, p5⟩), fun c => absurd c (by decide)⟩) (fun p => ⟨fun c => absurd rfl c, fun _ => k_S_refuse1 (h0 (by omega))⟩)⟩) (fun p => ⟨fun _ => k_S_refuse1 (h0 (by omega)), fun c => absurd rfl c⟩)⟩) (fun p => ⟨fun _ => k_S_refuse1 (h0 (by omega)), fun c => absurd rfl c⟩))
theorem k_M_window {x y z : Int} {Q : Int → zM → Prop} (hd : 3 ≤ d) (hm : 0 ≤ μ 1322 6 ∧ μ 1322 6 ≤ 40) (h1 : 0 ≤ x → x ≤ 9 → 0 ≤ y → y ≤ 1 → 0 ≤ z → z ≤ 1 → μ 1322 6 < 40 → Q (μ 1322 6) (mok (zup (zup (zup (zup (zup μ 1320 0 0) 1322 (360 + 3 * μ 1322 6) x) 1322 (360 + 3 * μ 1322 6 + 1) y) 1322 (360 + 3 * μ 1322 6 + 2) z) 1322 6 (μ 1322 6 + 1)))) (h0 : ¬ (0 ≤ x ∧ x ≤ 9 ∧ 0 ≤ y ∧ y ≤ 1 ∧ 0 ≤ z ∧ z ≤ 1) → Q (-1) (mref (zup μ 1320 0 0) (-1))) (h5 : 0 ≤ x ∧ x ≤ 9 ∧ 0 ≤ y ∧ y ≤ 1 ∧ 0 ≤ z ∧ z ≤ 1 → ¬ μ 1322 6 < 40 → Q (-5) (mref (zup μ 1320 0 0) (-5))) : zCi X true l d 0 0 y_M_window [(13, 0, 1320), (0, 0, x), (0, 0, y), (0, 0, z)] μ Q := by
  have e0 : (zup μ 1320 0 0) (1320 + 2) 6 = μ 1322 6 := by
    rw [zup_ne (by decide)]; rfl
  have e1 : ∀ q0 w0 : Int, q0 ≠ 6 → (zup (zup μ 1320 0 0) (1320 + 2) q0 w0) (1320 + 2) 6 = μ 1322 6 := fun q0 w0 g0 => by
    rw [zup_miss (fun q => g0 q.2.symm), zup_ne (by decide)]; rfl
  have e2 : ∀ q0 w0 q1 w1 : Int, q0 ≠ 6 → q1 ≠ 6 → (zup (zup (zup μ 1320 0 0) (1320 + 2) q0 w0) (1320 + 2) q1 w1) (1320 + 2) 6 = μ 1322 6 := fun q0 w0 q1 w1 g0 g1 => by
    rw [zup_miss (fun q => g1 q.2.symm), zup_miss (fun q => g0 q.2.symm), zup_ne (by decide)]; rfl
  have e3 : ∀ q0 w0 q1 w1 q2 w2 : Int, q0 ≠ 6 → q1 ≠ 6 → q2 ≠ 6 → (zup (zup (zup (zup μ 1320 0 0) (1320 + 2) q0 w0) (1320 + 2) q1 w1) (1320 + 2) q2 w2) (1320 + 2) 6 = μ 1322 6 := fun q0 w0 q1 w1 q2 w2 g0 g1 g2 => by
    rw [zup_miss (fun q => g2 q.2.symm), zup_miss (fun q => g1 q.2.symm), zup_miss (fun q => g0 q.2.symm), zup_ne (by decide)]; rfl
  refine c_M_window (d1 := 2) (by omega) (k_M_in (fun p0 p1 => ⟨fun c => absurd c (by decide), fun _ => k_M_in (fun p2 p3 => ⟨fun c => absurd c (by decide), fun _ => k_M_in (fun p4 p5 => ⟨fun _ => ⟨fun c => ?_, fun c => k_M_telln (by decide) (h5 ⟨p0, p1, p2, p3, p4, p5⟩ (by rw [e0] at c; omega))⟩, fun c => absurd c (by decide)⟩) (fun p => ⟨fun c => absurd rfl c, fun _ => k_M_telln (by decide) (h0 (by omega))⟩)⟩) (fun p => ⟨fun _ => k_M_telln (by decide) (h0 (by omega)), fun c => absurd rfl c⟩)⟩) (fun p => ⟨fun _ => k_M_telln (by decide) (h0 (by omega)), fun c => absurd rfl c⟩))
  rw [e0] at c
  rw [e0, zw_of (x := 3 * μ 1322 6) (by omega) (by omega), zw_of (x := 360 + 3 * μ 1322 6) (by omega) (by omega)]
  rw [zw_of (x := 360 + 3 * μ 1322 6 + 1) (by omega) (by omega), zw_of (x := 360 + 3 * μ 1322 6 + 2) (by omega) (by omega)]
  rw [e3 _ _ _ _ _ _ (by omega) (by omega) (by omega), zw_of (x := μ 1322 6 + 1) (by omega) (by omega), zup_hit, zw_of (x := μ 1322 6 + 1 - 1) (by omega) (by omega)]
  have e : μ 1322 6 + 1 - 1 = μ 1322 6 := by omega
  rw [e]
  exact ⟨⟨by omega, by omega⟩, ⟨by omega, by omega⟩, ⟨by omega, by omega⟩, k_M_tellp (by omega) (h1 p0 p1 p2 p3 p4 p5 (by omega))⟩
theorem p_window {x y z : Int} (hL : zLRok LR) (h : zInv LR μ) (hd : 3 ≤ d) (hQ : ∀ v ρ, zInv LR ρ → Q v v ρ) : zCi X true l d 0 0 y_S_window [(12, 0, 0), (0, 0, x), (0, 0, y), (0, 0, z)] μ (fun v ν => zCi X true l d 0 0 y_M_window [(13, 0, 1320), (0, 0, x), (0, 0, y), (0, 0, z)] ν (fun w ρ => Q v w ρ)) := by
  have hRB := h.2.2.2.2.2.1.2.1
  have hb := hRB.2.2.2.2.2.2.1
  have hn : μ 19 0 = μ 1322 6 := by
    have := h.num 6 (by omega) (a := 18) (s := 0) (by decide) (by omega)
    exact this
  have er : ∀ x y z w n: Int, sok (zup (zup (zup (zup μ 20 n x) 21 n y) 22 n z) 19 0 w) 1322 = μ 1322 := fun x y z w n => by
    unfold sok
    rw [zup_ne (by decide), zup_ne (by decide), zup_ne (by decide), zup_ne (by decide), zup_ne (by decide)]
  refine k_S_window hd h.2.2.2.2.2.1.2.2.2.2.2 (by omega) (fun a0 a1 a2 a3 a4 a5 a9 => k_M_window hd (by rw [er]; exact hb) (fun _ _ _ _ _ _ _ => ?_) (fun c => absurd ⟨a0, a1, a2, a3, a4, a5⟩ c) (fun _ c => absurd (by rw [er]; omega) c)) (fun c => k_M_window hd (by rw [sref_row]; exact hb) (fun a0 a1 a2 a3 a4 a5 => absurd ⟨a0, a1, a2, a3, a4, a5⟩ c) (fun _ => hQ _ _ (h.ref hL (by omega))) (fun q => absurd q c)) (fun c a9 => k_M_window hd (by rw [sref_row]; exact hb) (fun _ _ _ _ _ _ q => absurd (by rw [sref_row] at q; omega) a9) (fun q => absurd c q) (fun _ _ => hQ _ _ (h.ref hL (by omega))))
  rw [er, hn]
  obtain ⟨n, e⟩ : ∃ n : Nat, μ 1322 6 = n := ⟨(μ 1322 6).toNat, by omega⟩
  rw [e]
  have hlt : n < 40 := by omega
  have hB : zRB (zapp_window (μ 1322) n x y z) := hRB.window e (by omega) (by omega) (by omega)
  have r0 := h.2.2.2.2.2.1.1
  have l0 := zl_window n hlt 0 (by omega)
  have r1 := r0.up (k := 360 + 3 * n + 0) (v := x) (a := 20) (s := n) (by unfold zvl; rw [l0]; show 19 + 0 < 58; omega) (by rw [l0]; rfl) (by rw [l0])
  have l1 := zl_window n hlt 1 (by omega)
  have r2 := r1.up (k := 360 + 3 * n + 1) (v := y) (a := 21) (s := n) (by unfold zvl; rw [l1]; show 19 + 1 < 58; omega) (by rw [l1]; rfl) (by rw [l1])
  have l2 := zl_window n hlt 2 (by omega)
  have r3 := r2.up (k := 360 + 3 * n + 2) (v := z) (a := 22) (s := n) (by unfold zvl; rw [l2]; show 19 + 2 < 58; omega) (by rw [l2]; rfl) (by rw [l2])
  have r4 := r3.up (k := 6) (v := (n : Int) + 1) (a := 19) (s := 0) (by unfold zvl; decide) (by decide) (by decide)
  have hR : zRoom LR (zup (zup (zup (zup μ 20 n x) 21 n y) 22 n z) 19 0 (n + 1)) 1 (zapp_window (μ 1322) n x y z) := by
    have ex : ∀ i : Int, i ≠ 6 → ¬ (360 + 3 * (n : Int) ≤ i ∧ i < 360 + 3 * (n : Int) + 3) → zapp_window (μ 1322) n x y z i = μ 1322 i := fun i a b => by
      unfold zapp_window zrw
      rw [if_neg a, if_neg (by omega), if_neg (by omega), if_neg (by omega)]
    have ec : zapp_window (μ 1322) n x y z 6 = n + 1 := by unfold zapp_window zrw; rw [if_pos rfl]
    refine ⟨?_, hB, fun k q1 q2 => ?_, ?_, ?_, ?_⟩
    · rw [show ((360 + 3 * n + 0 : Nat) : Int) = 360 + 3 * (n : Int) by omega, show ((360 + 3 * n + 1 : Nat) : Int) = 360 + 3 * (n : Int) + 1 by omega, show ((360 + 3 * n + 2 : Nat) : Int) = 360 + 3 * (n : Int) + 2 by omega] at r4
      refine r4.sub (V := zU (zapp_window (μ 1322) n x y z)) (fun i hi hv => ?_)
      · unfold zU at hv ⊢
        rw [ex 3 (by omega) (by omega), ex 4 (by omega) (by omega), ex 5 (by omega) (by omega), ec] at hv
        have := zvl_lt hi
        omega
    · rw [ex 3 (by omega) (by omega)] at q2
      refine hL.2.1 _ _ _ _ (fun i p1 p2 => ex _ (by omega) (by omega)) (hL.1 μ _ _ _ (fun c p1 p2 => ?_) (h.2.2.2.2.2.1.2.2.1 k q1 q2))
      rw [zup_ne (by omega), zup_ne (by omega), zup_ne (by omega), zup_ne (by omega)]
    · have := h.2.2.2.2.2.1.2.2.2.1
      refine Eq.trans ?_ this
      rw [zup_miss (by omega), zup_miss (by omega), zup_miss (by omega), zup_miss (by omega)]
    · have := h.2.2.2.2.2.1.2.2.2.2.1
      refine Eq.trans ?_ this
      rw [zup_miss (by omega), zup_miss (by omega), zup_miss (by omega), zup_miss (by omega)]
    · have := h.2.2.2.2.2.1.2.2.2.2.2
      refine Eq.trans ?_ this
      rw [zup_miss (by omega), zup_miss (by omega), zup_miss (by omega), zup_miss (by omega)]
  refine hQ _ _ (h.room hL (μ1 := zup (zup (zup (zup μ 20 n x) 21 n y) 22 n z) 19 0 (n + 1)) (fun b hb => ?_) hR (fun b q1 q2 q3 => ?_) (fun j' hj => ?_) (fun j' q1 q2 => ?_) ?_ ?_)
  · rw [zup_ne (by omega), zup_ne (by omega), zup_ne (by omega), zup_ne (by omega)]
  · unfold mok sok
    rw [zup_ne q2, zup_ne q3, zup_ne q3, zup_ne q3, zup_ne q3, zup_ne q2, zup_ne q1]
  · unfold mok sok
    rw [zup_ne (by decide), zup_ne (by decide), zup_ne (by decide), zup_ne (by decide), zup_ne (by decide), zup_ne (by decide), zup_miss (by omega), zup_ne (by decide), zup_ne (by decide), zup_ne (by decide), zup_ne (by decide)]
  · unfold mok sok
    rw [zup_miss (by omega), zup_ne (by decide), zup_ne (by decide), zup_ne (by decide), zup_ne (by decide), zup_miss (by omega), zup_ne (by decide), zup_ne (by decide), zup_ne (by decide), zup_ne (by decide), zup_ne (by decide)]
  · unfold mok sok
    rw [zup_hit, zup_ne (by decide), zup_ne (by decide), zup_ne (by decide), zup_ne (by decide), zup_ne (by decide), zup_ne (by decide), zup_hit]
  · unfold mok
    rw [zup_ne (by decide), zup_at, zup_at, zup_at, zup_at, zup_ne (by decide), er]
    rfl
end

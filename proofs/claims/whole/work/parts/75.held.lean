/-! held, parts, gentle, next -/
def zrs (ρ : Int → Int) (x : Int) : Int := zholds (fun c => 1 - ρ (480 + 900 * x + (2 + 8 * c))) (ρ (480 + 900 * x + 1)).toNat
def zfrt (ρ : Int → Int) (P : Int) : Int := zw (zmx (fun i => ρ (200 + i)) (ρ 2).toNat * zmx (fun i => ρ (20 + 3 * i + 1)) (ρ (10 + P)).toNat)
def zapt (a b : Int) : Int := if 0 ≤ a - b then a - b else b - a
def zbest (ok : Int → Bool) (v : Int → Int) : Nat → Int × Int
  | 0 => (-1, -1)
  | p + 1 => if ok p = true then (if v p ≤ (zbest ok v p).2 then zbest ok v p else ((p : Int), v p)) else zbest ok v p
theorem zbest_ok {ok : Int → Bool} {v : Int → Int} {p : Nat} (h : ok p = true) : zbest ok v (p + 1) = if v p ≤ (zbest ok v p).2 then zbest ok v p else ((p : Int), v p) := by
  conv => lhs; unfold zbest
  rw [if_pos h]
theorem zbest_no {ok : Int → Bool} {v : Int → Int} {p : Nat} (h : ok p = false) : zbest ok v (p + 1) = zbest ok v p := by
  conv => lhs; unfold zbest
  rw [if_neg (by rw [h]; decide)]
/-- the greatest of what is apart, as the machine says it -/
theorem zapt_m {a b : Int} (a0 : 0 ≤ a ∧ a ≤ 1000000) (b0 : 0 ≤ b ∧ b ≤ 1000000) : (if 0 ≤ zw (a - b) then zw (a - b) else zw (-(zw (a - b)))) = zapt a b := by
  unfold zapt
  rw [zw_of (x := a - b) (by omega) (by omega)]
  by_cases c : 0 ≤ a - b
  · rw [if_pos c, if_pos c]
  · rw [if_neg c, if_neg c, zw_of (by omega) (by omega)]
    omega
section
variable {X : zX} {l : Launch} {d : Nat} {μ : zM}
theorem zInv.fright (h : zInv zLR μ) {P : Int} (P0 : 0 ≤ P) (P1 : P < 6) : zw (zmx (μ 5) (μ 1322 (10 + P)).toNat * zmx (μ 8) (μ 1322 2).toNat) = zfrt (μ 1322) P := by
  obtain ⟨m0, m1, m2⟩ := h.many P0 P1
  obtain ⟨g0, g1, g2⟩ := h.long
  have e1 : zmx (fun i => μ 1322 (200 + i)) (μ 1322 2).toNat = zmx (μ 8) (μ 1322 2).toNat := zfold_congr (fun i a hi => by
    have := h.num (200 + i) (by omega) (zl_size i (by omega)) (by omega)
    have e : μ 8 (i : Int) = μ 1322 (200 + (i : Int)) := this
    simp only [e])
  have e2 : zmx (fun i => μ 1322 (20 + 3 * i + 1)) (μ 1322 (10 + P)).toNat = zmx (μ 5) (μ 1322 (10 + P)).toNat := zfold_congr (fun i a hi => by
    have := h.num (20 + 3 * i + 1) (by omega) (zl_trait i (by omega) 1 (by omega)) (by omega)
    have e : μ 5 (i : Int) = μ 1322 (20 + 3 * (i : Int) + 1) := this
    simp only [e])
  unfold zfrt
  rw [e1, e2, Int.mul_comm]
theorem k_S_fright' {P : Int} {Q : Int → zM → Prop} (hd : 1 ≤ d) (h : zInv zLR μ) (P0 : 0 ≤ P) (P1 : P < 6) (hQ : Q (zfrt (μ 1322) P) μ) : zCi X true l d 0 0 y_S_frightOf [(12, 0, 0), (0, 0, P)] μ Q := by
  obtain ⟨m0, m1, m2⟩ := h.many P0 P1
  obtain ⟨g0, g1, g2⟩ := h.long
  refine k_S_frightOf (c := (μ 1322 (10 + P)).toNat) (g := (μ 1322 2).toNat) hd ⟨P0, P1⟩ (by omega) (by omega) (by omega) (by omega) ?_
  rw [h.fright P0 P1]
  exact hQ
theorem k_M_fright' {P : Int} {Q : Int → zM → Prop} (h : zInv zLR μ) (P0 : 0 ≤ P) (P1 : P < 6) (hQ : Q (zfrt (μ 1322) P) μ) : zCi X true l d 0 0 y_M_frightOf [(13, 0, 1320), (0, 0, P)] μ Q := by
  obtain ⟨m0, m1, m2⟩ := h.many P0 P1
  obtain ⟨g0, g1, g2⟩ := h.long
  exact k_M_frightOf (c := (μ 1322 (10 + P)).toNat) (g := (μ 1322 2).toNat) ⟨P0, P1⟩ (by omega) (by omega) (by omega) (by omega) hQ
theorem k_S_isReason {r : Int} {Q : Int → zM → Prop} (hd : 2 ≤ d) (h : zInv zLR μ) (h1 : μ 1322 1 ≠ -1 → 0 ≤ r → r < zrs (μ 1322) (μ 1322 1) → Q 1 μ) (h0 : ¬ (μ 1322 1 ≠ -1 ∧ 0 ≤ r ∧ r < zrs (μ 1322) (μ 1322 1)) → Q 0 μ) : zCi X true l d 0 0 y_S_isReason [(12, 0, 0), (0, 0, r)] μ Q := by
  obtain ⟨f0, f1, f2, f3⟩ := h.force
  have e7 := h.nlaws
  refine c_S_isReason (a0 := 0) (d1 := 1) (by omega) ?_
  simp only [Int.reduceAdd]
  rw [f0]
  refine ⟨fun c => h0 (by omega), fun c => k_S_isLaw (fun p q q2 => ⟨fun c => absurd c (by decide), fun _ => ?_⟩) (fun c2 => ⟨fun _ => h0 (by omega), fun q => absurd rfl q⟩)⟩
  obtain ⟨n, g, n12, hn, hn2, hc⟩ := h.heads (x := μ 1322 1) p (by omega)
  have hz : zrs (μ 1322) (μ 1322 1) = zholds (μ (59 + 7 * μ 1322 1 + 1)) n := by
    unfold zrs
    rw [hn2, Int.toNat_natCast]
    refine zholds_congr n (fun c c0 c1 => ?_)
    obtain ⟨t1, t2, t3⟩ := hc c c0 c1
    rw [t2, show (59 : Int) + 7 * μ 1322 1 + 1 = 60 + 7 * μ 1322 1 by omega, t1]
    omega
  rw [f0]
  refine ⟨by omega, ?_⟩
  have ea : (59 : Int) + 7 * μ 1322 1 = 59 + 7 * μ 1322 1 := rfl
  refine k_Law_holds hn n12 ⟨fun q => h0 (by omega), fun q => h1 (by omega) (by omega) (by omega)⟩
theorem k_M_isReason {r : Int} {Q : Int → zM → Prop} (hd : 1 ≤ d) (h : zInv zLR μ) (h1 : μ 1322 1 ≠ -1 → 0 ≤ r → r < zrs (μ 1322) (μ 1322 1) → Q 1 μ) (h0 : ¬ (μ 1322 1 ≠ -1 ∧ 0 ≤ r ∧ r < zrs (μ 1322) (μ 1322 1)) → Q 0 μ) : zCi X true l d 0 0 y_M_isReason [(13, 0, 1320), (0, 0, r)] μ Q := by
  obtain ⟨f0, f1, f2, f3⟩ := h.force
  refine c_M_isReason (a0 := 1320) (d1 := 0) (by omega) ?_
  simp only [Int.reduceAdd]
  refine ⟨fun c => h0 (by omega), fun c => ?_⟩
  have e : (if 0 ≤ μ 1322 1 then μ 1322 1 else 0) = μ 1322 1 := if_pos (by omega)
  rw [e]
  obtain ⟨n, g, n12, hn, hn2, hc⟩ := h.heads (x := μ 1322 1) (by omega) (by omega)
  have hz : zrs (μ 1322) (μ 1322 1) = zholds g n := by
    unfold zrs
    rw [hn2, Int.toNat_natCast]
    refine zholds_congr n (fun c c0 c1 => ?_)
    obtain ⟨t1, t2, t3⟩ := hc c c0 c1
    rw [t2]
    omega
  have hb := zholds_bd g n
  refine k_M_reasonsOf (g := g) (by omega) (by omega) hn2 n12 (fun c c0 c1 => (hc c c0 c1).2) ?_
  rw [zwl_id (by omega) (by omega)]
  exact k_M_in (fun p q => ⟨fun c => absurd c (by decide), fun _ => h1 c p (by omega)⟩) (fun q => ⟨fun _ => h0 (by omega), fun c => absurd rfl c⟩)
theorem k_M_heldBy {P r : Int} {law : Option zLaw} {Q : Int → zM → Prop} (hd : 6 ≤ d) (h : zInv zLR μ) (hl : zLk μ (μ 1322 1) law) (P0 : 0 ≤ P) (P1 : P < 6) (hQ : ∀ ν, zCm μ ν → Q (zanyv (μ 1322) P law r - zanyv (μ 1322) P law (-1)) ν) : zCi X true l d 0 0 y_M_heldBy [(13, 0, 1320), (0, 0, P), (0, 0, r)] μ Q := by
  refine c_M_heldBy (a0 := 1320) (d1 := 5) (by omega) (k_M_anyOf (by omega) h hl P0 P1 (fun ν c1 => ?_))
  have e : ν (1320 + 2) 1 = μ 1322 1 := by show ν 1322 1 = _; rw [c1.row]
  rw [e]
  refine k_M_anyOf (by omega) (h.cm c1) (hl.cm c1) P0 P1 (fun ν2 c2 => ?_)
  have b1 := zanyv_bd (ρ := μ 1322) (P := P) (law := law) (wo := r)
  have b2 := zanyv_bd (ρ := μ 1322) (P := P) (law := law) (wo := -1)
  rw [c1.row, zw_of (by omega) (by omega)]
  exact hQ ν2 (c1.trans c2)
end
section
variable {X : zX} {l : Launch} {d : Nat} {μ : zM} {Q : Int → Int → zM → Prop}
theorem p_held {x y : Int} (h : zInv zLR μ) (hd : 7 ≤ d) (hQ : ∀ v ρ, zInv zLR ρ → Q v v ρ) : zCi X true l d 0 0 y_S_held [(12, 0, 0), (0, 0, x), (0, 0, y)] μ (fun v ν => zCi X true l d 0 0 y_M_held [(13, 0, 1320), (0, 0, x), (0, 0, y)] ν (fun w ρ => Q v w ρ)) := by
  obtain ⟨f0, f1, f2, f3⟩ := h.force
  obtain ⟨law, hl⟩ := h.law (x := μ 1322 1) (by omega)
  have hl : zLk μ (μ 1322 1) law := hl
  have ht := h.thrown zLR_ok
  refine c_S_held (a0 := 0) (d1 := 6) (by omega) (k_S_isPlan (fun p q => ⟨fun c => absurd c (by decide), fun _ => k_S_isReason (by omega) h (fun r1 r2 r3 => ⟨fun _ => k_S_anyWithout (by omega) h hl p q (fun ν c1 => ?_), fun c => absurd c (by decide)⟩) (fun c => ⟨fun q => absurd rfl q, fun _ => ?_⟩)⟩) (fun c => ⟨fun _ => ?_, fun q => absurd rfl q⟩))
  · have e : ν (0 + 1) 9 = μ 1322 1 := by show ν 1 9 = _; rw [c1.1 1 (by decide) (by decide)]; exact f0
    rw [e]
    refine k_S_anyOf (by omega) (h.cm c1) (hl.cm c1) (by omega) p q (fun ν2 c2 => ?_)
    have c12 := c1.trans c2
    have i2 := h.cm c12
    have ht2 := i2.thrown zLR_ok
    have b1 := zanyv_bd (ρ := μ 1322) (P := x) (law := law) (wo := y)
    have b2 := zanyv_bd (ρ := μ 1322) (P := x) (law := law) (wo := -1)
    rw [c1.row, zw_of (by omega) (by omega)]
    have er : zup ν2 1320 0 0 1322 = μ 1322 := by rw [zup_ne (by decide), c12.row]
    have c3 : zCm ν2 (zup ν2 1320 0 0) := ⟨fun b b0 b1 => zup_ne (by omega), zup_ne (by decide), fun b b0 b1 => zup_ne (by omega), fun b b0 b1 => zup_ne (by omega), zup_ne (by decide), ⟨zup_miss (by decide), zup_miss (by decide), zup_miss (by decide), zup_miss (by decide)⟩, ht2.2.2.2.2.2.2.2.2⟩
    refine c_M_held (a0 := 1320) (d1 := 6) (by omega) (k_M_isPlan (by omega) (fun _ _ => ⟨fun c => absurd c (by decide), fun _ => k_M_isReason (by omega) ht2 (fun _ _ _ => ⟨fun c => absurd c (by decide), fun _ => ?_⟩) (fun c => absurd (by rw [er]; exact ⟨r1, r2, r3⟩) c)⟩) (fun c => absurd ⟨p, q⟩ c))
    refine k_M_heldBy (law := law) (by omega) ht2 (by rw [er]; exact hl.cm (c12.trans c3)) p q (fun ν4 c4 => ?_)
    rw [er]
    exact hQ _ _ (ht2.cm c4)
  · exact c_M_held (a0 := 1320) (d1 := 6) (by omega) (k_M_isPlan (by omega) (fun _ _ => ⟨fun c => absurd c (by decide), fun _ => k_M_isReason (by omega) ht (fun r1 r2 r3 => absurd (by rw [zup_ne (by decide)] at r1 r3; exact ⟨r1, r2, r3⟩) c) (fun _ => ⟨fun _ => hQ _ _ ht, fun q => absurd rfl q⟩)⟩) (fun c2 => absurd ⟨by assumption, by assumption⟩ c2))
  · exact c_M_held (a0 := 1320) (d1 := 6) (by omega) (k_M_isPlan (by omega) (fun p q => absurd ⟨p, q⟩ c) (fun _ => ⟨fun _ => hQ _ _ ht, fun q => absurd rfl q⟩))
end

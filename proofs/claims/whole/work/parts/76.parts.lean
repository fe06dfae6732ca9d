/-! parts, gentle, next -/
theorem zCm.thrown {μ : zM} (h : zInv zLR μ) : zCm μ (zup μ 1320 0 0) := ⟨fun b b0 b1 => zup_ne (by omega), zup_ne (by decide), fun b b0 b1 => zup_ne (by omega), fun b b0 b1 => zup_ne (by omega), zup_ne (by decide), ⟨zup_miss (by decide), zup_miss (by decide), zup_miss (by decide), zup_miss (by decide)⟩, (h.thrown zLR_ok).2.2.2.2.2.2.2.2⟩
theorem zmx_bd {f : Int → Int} {B : Int} (B0 : 0 ≤ B) : ∀ n : Nat, (∀ i : Nat, i < n → f i ≤ B) → 0 ≤ zmx f n ∧ zmx f n ≤ B
  | 0, _ => by
    show 0 ≤ (0 : Int) ∧ (0 : Int) ≤ B
    omega
  | n + 1, h => by
    have ih := zmx_bd B0 n (fun i hi => h i (by omega))
    have hn := h n (by omega)
    have e : zmx f (n + 1) = if zmx f n < f n then f n else zmx f n := rfl
    rw [e]
    split <;> omega
section
variable {X : zX} {l : Launch} {d : Nat} {μ : zM}
theorem zInv.frtb (h : zInv zLR μ) {P : Int} (P0 : 0 ≤ P) (P1 : P < 6) : zfrt (μ 1322) P ≤ 891 := by
  obtain ⟨m0, m1, m2⟩ := h.many P0 P1
  obtain ⟨g0, g1, g2⟩ := h.long
  obtain ⟨_, _, _, _, _, _, _, _, h8, _, _, _, _, h13, _⟩ := h.rb
  have a := zmx_bd (f := fun i => μ 1322 (200 + i)) (B := 99) (by decide) (μ 1322 2).toNat (fun i hi => (h13 (200 + i) (by omega) (by omega)).2)
  have b := zmx_bd (f := fun i => μ 1322 (20 + 3 * i + 1)) (B := 9) (by decide) (μ 1322 (10 + P)).toNat (fun i hi => (h8 (20 + 3 * i + 1) (by omega) (by omega)).2)
  have c := zmulb a.1 a.2 b.1 b.2
  unfold zfrt
  rw [zw_of (by omega) (by omega)]
  omega
def zpok (ρ : Int → Int) (fr : Int) (p : Int) : Bool := decide (ρ (10 + p) ≠ 0 ∧ zfrt ρ p ≤ fr)
def zpv (ρ : Int → Int) (law : Option zLaw) (one other : Int) (p : Int) : Int := zapt (zanyv ρ p law one) (zanyv ρ p law other)
theorem k_S_mostParted {one other fr what : Int} {law : Option zLaw} {Q : Int → zM → Prop} (hd : 6 ≤ d) (h : zInv zLR μ) (hl : zLk μ (μ 1322 1) law)
    (h1 : ∀ ν, zCm μ ν → (μ 1322 1 ≠ -1 ∧ 0 ≤ one ∧ one < zrs (μ 1322) (μ 1322 1)) → (μ 1322 1 ≠ -1 ∧ 0 ≤ other ∧ other < zrs (μ 1322) (μ 1322 1)) → (0 ≤ what ∧ what ≤ 1) → Q (if ¬ what = 0 then (zbest (zpok (μ 1322) fr) (zpv (μ 1322) law one other) 6).2 else (zbest (zpok (μ 1322) fr) (zpv (μ 1322) law one other) 6).1) ν)
    (h0 : ¬ ((μ 1322 1 ≠ -1 ∧ 0 ≤ one ∧ one < zrs (μ 1322) (μ 1322 1)) ∧ (μ 1322 1 ≠ -1 ∧ 0 ≤ other ∧ other < zrs (μ 1322) (μ 1322 1)) ∧ (0 ≤ what ∧ what ≤ 1)) → Q (-1) μ) : zCi X true l d 0 0 y_S_mostParted [(12, 0, 0), (0, 0, one), (0, 0, other), (0, 0, fr), (0, 0, what)] μ Q := by
  refine c_S_mostParted (a0 := 0) (d1 := 5) (by omega) (k_S_isReason (by omega) h (fun a1 a2 a3 => ⟨fun c => absurd c (by decide), fun _ => k_S_isReason (by omega) h (fun b1 b2 b3 => ⟨fun c => absurd c (by decide), fun _ => k_S_within (fun c1 c2 => ⟨fun _ => ?_, fun c => absurd c (by decide)⟩) (fun c => ⟨fun q => absurd rfl q, fun _ => h0 (fun q => c q.2.2)⟩)⟩) (fun c => ⟨fun _ => h0 (fun q => c q.2.1), fun q => absurd rfl q⟩)⟩) (fun c => ⟨fun _ => h0 (fun q => c q.1), fun q => absurd rfl q⟩))
  have loop : ∀ k p : Nat, p + k = 6 → ∀ ν : zM, zCm μ ν → zE X true l d 0 0 y_S_mostParted 37 [some (12, 0, 0), some (0, 0, one), some (0, 0, other), some (0, 0, fr), some (0, 0, what), some (0, 0, (zbest (zpok (μ 1322) fr) (zpv (μ 1322) law one other) p).1), some (0, 0, (zbest (zpok (μ 1322) fr) (zpv (μ 1322) law one other) p).2), some (0, 0, (p : Int)), none] [] ν (zri Q) := by
    intro k
    induction k with
    | zero =>
      intro p hp ν cν
      obtain rfl : p = 6 := by omega
      exact s_S_mostParted_37 (d1 := 5) (by omega) ⟨fun _ => h1 ν cν ⟨a1, a2, a3⟩ ⟨b1, b2, b3⟩ ⟨c1, c2⟩, fun c => absurd (by decide) c⟩
    | succ k ih =>
      intro p hp ν cν
      have iν := h.cm cν
      obtain ⟨m0, m1, m2⟩ := iν.many (P := p) (by omega) (by omega)
      rw [cν.row] at m0 m1 m2
      refine s_S_mostParted_37 (d1 := 5) (by omega) ⟨fun c => absurd c (by omega), fun _ => ⟨by omega, ?_⟩⟩
      rw [show (0 : Int) + 1 + 1 + 21 + 6 * (p : Int) = 23 + 6 * p by omega, m0, zw_of (x := (p : Int) + 1) (by omega) (by omega)]
      refine ⟨fun z => ?_, fun z => k_S_fright' (by omega) iν (by omega) (by omega) ?_⟩
      · have e := zbest_no (ok := zpok (μ 1322) fr) (v := zpv (μ 1322) law one other) (p := p) (by unfold zpok; exact decide_eq_false (fun q => q.1 z))
        have nx := ih (p + 1) (by omega) ν cν
        rw [e] at nx
        exact nx
      · rw [cν.row]
        refine ⟨fun le => k_S_anyWithout (law := law) (by omega) iν (by rw [cν.row]; exact hl.cm cν) (by omega) (by omega) (fun ν2 t2 => k_S_anyWithout (law := law) (by omega) (iν.cm t2) (by rw [t2.row, cν.row]; exact (hl.cm cν).cm t2) (by omega) (by omega) (fun ν3 t3 => ?_)), fun gt => ?_⟩
        · have e := zbest_ok (ok := zpok (μ 1322) fr) (v := zpv (μ 1322) law one other) (p := p) (by unfold zpok; exact decide_eq_true ⟨z, le⟩)
          have nx := ih (p + 1) (by omega) ν3 ((cν.trans t2).trans t3)
          rw [t2.row, cν.row, zapt_m zanyv_bd zanyv_bd]
          rw [e] at nx
          refine ⟨fun q => ?_, fun q => ?_⟩
          · rw [if_pos (show zpv (μ 1322) law one other p ≤ _ from q)] at nx
            exact nx
          · rw [if_neg (show ¬ zpv (μ 1322) law one other p ≤ _ from q)] at nx
            exact nx
        · have e := zbest_no (ok := zpok (μ 1322) fr) (v := zpv (μ 1322) law one other) (p := p) (by unfold zpok; exact decide_eq_false (fun q => gt q.2))
          have nx := ih (p + 1) (by omega) ν cν
          rw [e] at nx
          exact nx
  exact loop 6 0 rfl μ (zCm.refl h)
theorem zbest_congr {ok ok' : Int → Bool} {v : Int → Int} : ∀ n : Nat, (∀ p : Nat, p < n → ok p = ok' p) → zbest ok v n = zbest ok' v n
  | 0, _ => rfl
  | n + 1, h => by
    unfold zbest
    rw [zbest_congr n (fun p hp => h p (by omega)), h n (by omega)]
/-- both halves of a step of the reference -/
theorem zhb {A1 A2 B : Int} (a1 : 0 ≤ A1 ∧ A1 ≤ 1000000) (a2 : 0 ≤ A2 ∧ A2 ≤ 1000000) (b : 0 ≤ B ∧ B ≤ 1000000) : (if 0 ≤ zw (A1 - B - (A2 - B)) then zw (A1 - B - (A2 - B)) else zw (-(zw (A1 - B - (A2 - B))))) = zapt A1 A2 := by
  rw [show A1 - B - (A2 - B) = A1 - A2 by omega]
  exact zapt_m a1 a2
end
section
variable {X : zX} {l : Launch} {d : Nat} {μ : zM} {Q : Int → Int → zM → Prop}
theorem p_parts {x y z : Int} (h : zInv zLR μ) (hd : 7 ≤ d) (hQ : ∀ v ρ, zInv zLR ρ → Q v v ρ) : zCi X true l d 0 0 y_S_parts [(12, 0, 0), (0, 0, x), (0, 0, y), (0, 0, z)] μ (fun v ν => zCi X true l d 0 0 y_M_parts [(13, 0, 1320), (0, 0, x), (0, 0, y), (0, 0, z)] ν (fun w ρ => Q v w ρ)) := by
  obtain ⟨f0, f1, f2, f3⟩ := h.force
  obtain ⟨law, hl⟩ := h.law (x := μ 1322 1) (by omega)
  have hl : zLk μ (μ 1322 1) law := hl
  refine c_S_parts (a0 := 0) (d1 := 6) (by omega) (k_S_mostParted (law := law) (by omega) h hl (fun ν c1 r1 r2 r3 => ?_) (fun no => ?_))
  · have i1 := h.cm c1
    have c2 := c1.trans (zCm.thrown i1)
    have i2 := h.cm c2
    have er := c2.row
    refine c_M_parts (a0 := 1320) (d1 := 6) (by omega) (k_M_isReason (by omega) i2 (fun _ _ _ => ⟨fun c => absurd c (by decide), fun _ => k_M_isReason (by omega) i2 (fun _ _ _ => ⟨fun c => absurd c (by decide), fun _ => k_M_in (fun _ _ => ⟨fun _ => ?_, fun c => absurd c (by decide)⟩) (fun c => absurd r3 c)⟩) (fun c => absurd (by rw [er]; exact r2) c)⟩) (fun c => absurd (by rw [er]; exact r1) c))
    have loop : ∀ k p : Nat, p + k = 6 → ∀ ν' : zM, zCm μ ν' → zE X true l d 0 0 y_M_parts 42 [some (13, 0, 1320), some (0, 0, x), some (0, 0, y), some (0, 0, z), some (0, 0, (zbest (zpok (μ 1322) 891) (zpv (μ 1322) law x y) p).1), some (0, 0, (zbest (zpok (μ 1322) 891) (zpv (μ 1322) law x y) p).2), some (0, 0, (p : Int)), none] [] ν' (zri (fun w ρ => Q (if ¬ z = 0 then (zbest (zpok (μ 1322) 891) (zpv (μ 1322) law x y) 6).2 else (zbest (zpok (μ 1322) 891) (zpv (μ 1322) law x y) 6).1) w ρ)) := by
      intro k
      induction k with
      | zero =>
        intro p hp ν' cν
        obtain rfl : p = 6 := by omega
        exact s_M_parts_42 (a0 := 1320) (d1 := 6) (by omega) ⟨fun _ => hQ _ _ (h.cm cν), fun c => absurd (by decide) c⟩
      | succ k ih =>
        intro p hp ν' cν
        have iν := h.cm cν
        obtain ⟨m0, m1, m2⟩ := iν.many (P := p) (by omega) (by omega)
        rw [cν.row] at m0 m1 m2
        refine s_M_parts_42 (a0 := 1320) (d1 := 6) (by omega) ⟨fun c => absurd c (by omega), fun _ => ?_⟩
        simp only [Int.reduceAdd]
        rw [zw_of (x := 10 + (p : Int)) (by omega) (by omega), zw_of (x := (p : Int) + 1) (by omega) (by omega), cν.row]
        refine ⟨by omega, fun le => ?_, fun gt => k_M_heldBy (law := law) (by omega) iν (by rw [cν.row]; exact hl.cm cν) (by omega) (by omega) (fun ν2 t2 => k_M_heldBy (law := law) (by omega) (iν.cm t2) (by rw [t2.row, cν.row]; exact (hl.cm cν).cm t2) (by omega) (by omega) (fun ν3 t3 => ?_))⟩
        · have e := zbest_no (ok := zpok (μ 1322) 891) (v := zpv (μ 1322) law x y) (p := p) (by unfold zpok; exact decide_eq_false (fun q => q.1 (by omega)))
          have nx := ih (p + 1) (by omega) ν' cν
          rw [e] at nx
          exact nx
        · have e := zbest_ok (ok := zpok (μ 1322) 891) (v := zpv (μ 1322) law x y) (p := p) (by unfold zpok; exact decide_eq_true ⟨by omega, h.frtb (by omega) (by omega)⟩)
          have nx := ih (p + 1) (by omega) ν3 ((cν.trans t2).trans t3)
          rw [t2.row, cν.row, zhb zanyv_bd zanyv_bd zanyv_bd, show zapt (zanyv (μ 1322) p law x) (zanyv (μ 1322) p law y) = zpv (μ 1322) law x y p from rfl]
          rw [e] at nx
          by_cases q : zpv (μ 1322) law x y p ≤ (zbest (zpok (μ 1322) 891) (zpv (μ 1322) law x y) p).2
          · rw [if_pos q] at nx
            rw [if_pos q, if_pos q]
            exact nx
          · rw [if_neg q] at nx
            rw [if_neg q, if_neg q]
            exact nx
    exact loop 6 0 rfl _ c2
  · have i2 := h.thrown zLR_ok
    have er := (zCm.thrown h).row
    refine c_M_parts (a0 := 1320) (d1 := 6) (by omega) (k_M_isReason (by omega) i2 (fun a1 a2 a3 => ⟨fun c => absurd c (by decide), fun _ => k_M_isReason (by omega) i2 (fun b1 b2 b3 => ⟨fun c => absurd c (by decide), fun _ => k_M_in (fun c1 c2 => absurd (by rw [er] at a1 a3 b1 b3; exact ⟨⟨a1, a2, a3⟩, ⟨b1, b2, b3⟩, ⟨c1, c2⟩⟩) no) (fun _ => ⟨fun q => absurd rfl q, fun _ => hQ _ _ i2⟩)⟩) (fun _ => ⟨fun _ => hQ _ _ i2, fun q => absurd rfl q⟩)⟩) (fun _ => ⟨fun _ => hQ _ _ i2, fun q => absurd rfl q⟩))
theorem p_gentle {x y f z : Int} (h : zInv zLR μ) (hd : 7 ≤ d) (hQ : ∀ v ρ, zInv zLR ρ → Q v v ρ) : zCi X true l d 0 0 y_S_gentle [(12, 0, 0), (0, 0, x), (0, 0, y), (0, 0, f), (0, 0, z)] μ (fun v ν => zCi X true l d 0 0 y_M_gentle [(13, 0, 1320), (0, 0, x), (0, 0, y), (0, 0, f), (0, 0, z)] ν (fun w ρ => Q v w ρ)) := by
  obtain ⟨f0, f1, f2, f3⟩ := h.force
  obtain ⟨law, hl⟩ := h.law (x := μ 1322 1) (by omega)
  have hl : zLk μ (μ 1322 1) law := hl
  have i2 := h.thrown zLR_ok
  have er := (zCm.thrown h).row
  have nope : ¬ ((μ 1322 1 ≠ -1 ∧ 0 ≤ x ∧ x < zrs (μ 1322) (μ 1322 1)) ∧ (μ 1322 1 ≠ -1 ∧ 0 ≤ y ∧ y < zrs (μ 1322) (μ 1322 1)) ∧ (0 ≤ f ∧ f ≤ 891) ∧ (0 ≤ z ∧ z ≤ 1)) → zCi X true l d 0 0 y_M_gentle [(13, 0, 1320), (0, 0, x), (0, 0, y), (0, 0, f), (0, 0, z)] μ (fun w ρ => Q (-1) w ρ) := fun no =>
    c_M_gentle (a0 := 1320) (d1 := 6) (by omega) (k_M_isReason (by omega) i2 (fun a1 a2 a3 => ⟨fun c => absurd c (by decide), fun _ => k_M_isReason (by omega) i2 (fun b1 b2 b3 => ⟨fun c => absurd c (by decide), fun _ => k_M_in (fun g1 g2 => ⟨fun c => absurd c (by decide), fun _ => k_M_in (fun c1 c2 => absurd (by rw [er] at a1 a3 b1 b3; exact ⟨⟨a1, a2, a3⟩, ⟨b1, b2, b3⟩, ⟨g1, g2⟩, ⟨c1, c2⟩⟩) no) (fun _ => ⟨fun q => absurd rfl q, fun _ => hQ _ _ i2⟩)⟩) (fun _ => ⟨fun _ => hQ _ _ i2, fun q => absurd rfl q⟩)⟩) (fun _ => ⟨fun _ => hQ _ _ i2, fun q => absurd rfl q⟩)⟩) (fun _ => ⟨fun _ => hQ _ _ i2, fun q => absurd rfl q⟩))
  refine c_S_gentle (a0 := 0) (d1 := 6) (by omega) (k_S_within (fun g1 g2 => ⟨fun c => absurd c (by decide), fun _ => k_S_mostParted (law := law) (by omega) h hl (fun ν c1 r1 r2 r3 => ?_) (fun no => nope (fun q => no ⟨q.1, q.2.1, q.2.2.2⟩))⟩) (fun c => ⟨fun _ => nope (fun q => c q.2.2.1), fun q => absurd rfl q⟩))
  have i1 := h.cm c1
  have c2 := c1.trans (zCm.thrown i1)
  have i2 := h.cm c2
  have er := c2.row
  refine c_M_gentle (a0 := 1320) (d1 := 6) (by omega) (k_M_isReason (by omega) i2 (fun _ _ _ => ⟨fun c => absurd c (by decide), fun _ => k_M_isReason (by omega) i2 (fun _ _ _ => ⟨fun c => absurd c (by decide), fun _ => k_M_in (fun _ _ => ⟨fun c => absurd c (by decide), fun _ => k_M_in (fun _ _ => ⟨fun _ => ?_, fun c => absurd c (by decide)⟩) (fun c => absurd r3 c)⟩) (fun c => absurd ⟨g1, g2⟩ c)⟩) (fun c => absurd (by rw [er]; exact r2) c)⟩) (fun c => absurd (by rw [er]; exact r1) c))
  have loop : ∀ k p : Nat, p + k = 6 → ∀ ν' : zM, zCm μ ν' → zE X true l d 0 0 y_M_gentle 55 [some (13, 0, 1320), some (0, 0, x), some (0, 0, y), some (0, 0, f), some (0, 0, z), some (0, 0, (zbest (zpok (μ 1322) f) (zpv (μ 1322) law x y) p).1), some (0, 0, (zbest (zpok (μ 1322) f) (zpv (μ 1322) law x y) p).2), some (0, 0, (p : Int)), none] [] ν' (zri (fun w ρ => Q (if ¬ z = 0 then (zbest (zpok (μ 1322) f) (zpv (μ 1322) law x y) 6).2 else (zbest (zpok (μ 1322) f) (zpv (μ 1322) law x y) 6).1) w ρ)) := by
    intro k
    induction k with
    | zero =>
      intro p hp ν' cν
      obtain rfl : p = 6 := by omega
      exact s_M_gentle_55 (a0 := 1320) (d1 := 6) (by omega) ⟨fun _ => hQ _ _ (h.cm cν), fun c => absurd (by decide) c⟩
    | succ k ih =>
      intro p hp ν' cν
      have iν := h.cm cν
      obtain ⟨m0, m1, m2⟩ := iν.many (P := p) (by omega) (by omega)
      rw [cν.row] at m0 m1 m2
      have no : zpok (μ 1322) f p = false → zE X true l d 0 0 y_M_gentle 55 [some (13, 0, 1320), some (0, 0, x), some (0, 0, y), some (0, 0, f), some (0, 0, z), some (0, 0, (zbest (zpok (μ 1322) f) (zpv (μ 1322) law x y) p).1), some (0, 0, (zbest (zpok (μ 1322) f) (zpv (μ 1322) law x y) p).2), some (0, 0, (p : Int) + 1), none] [] ν' (zri (fun w ρ => Q (if ¬ z = 0 then (zbest (zpok (μ 1322) f) (zpv (μ 1322) law x y) 6).2 else (zbest (zpok (μ 1322) f) (zpv (μ 1322) law x y) 6).1) w ρ)) := fun hn => by
        have nx := ih (p + 1) (by omega) ν' cν
        rw [zbest_no hn] at nx
        exact nx
      refine s_M_gentle_55 (a0 := 1320) (d1 := 6) (by omega) ⟨fun c => absurd c (by omega), fun _ => ?_⟩
      simp only [Int.reduceAdd]
      rw [zw_of (x := 10 + (p : Int)) (by omega) (by omega), zw_of (x := (p : Int) + 1) (by omega) (by omega), cν.row]
      refine ⟨by omega, fun le => no (by unfold zpok; exact decide_eq_false (fun q => q.1 (by omega))), fun gt => k_M_fright' iν (by omega) (by omega) ?_⟩
      rw [cν.row]
      refine ⟨fun lt => no (by unfold zpok; exact decide_eq_false (fun q => by omega)), fun nlt => k_M_heldBy (law := law) (by omega) iν (by rw [cν.row]; exact hl.cm cν) (by omega) (by omega) (fun ν2 t2 => k_M_heldBy (law := law) (by omega) (iν.cm t2) (by rw [t2.row, cν.row]; exact (hl.cm cν).cm t2) (by omega) (by omega) (fun ν3 t3 => ?_))⟩
      have e := zbest_ok (ok := zpok (μ 1322) f) (v := zpv (μ 1322) law x y) (p := p) (by unfold zpok; exact decide_eq_true ⟨by omega, by omega⟩)
      have nx := ih (p + 1) (by omega) ν3 ((cν.trans t2).trans t3)
      rw [t2.row, cν.row, zhb zanyv_bd zanyv_bd zanyv_bd, show zapt (zanyv (μ 1322) p law x) (zanyv (μ 1322) p law y) = zpv (μ 1322) law x y p from rfl]
      rw [e] at nx
      by_cases q : zpv (μ 1322) law x y p ≤ (zbest (zpok (μ 1322) f) (zpv (μ 1322) law x y) p).2
      · rw [if_pos q] at nx
        rw [if_pos q, if_pos q]
        exact nx
      · rw [if_neg q] at nx
        rw [if_neg q, if_neg q]
        exact nx
  exact loop 6 0 rfl _ c2
end

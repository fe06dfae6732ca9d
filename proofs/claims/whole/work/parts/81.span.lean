/-! moved, span: the pairs -/
section
variable {X : zX} {l : Launch} {d : Nat} {μ : zM} {Q : Int → Int → zM → Prop}
theorem p_moved {x y : Int} (h : zInv zLR μ) (hd : 7 ≤ d) (hQ : ∀ v ρ, zInv zLR ρ → Q v v ρ) : zCi X true l d 0 0 y_S_moved [(12, 0, 0), (0, 0, x), (0, 0, y)] μ (fun v ν => zCi X true l d 0 0 y_M_moved [(13, 0, 1320), (0, 0, x), (0, 0, y)] ν (fun w ρ => Q v w ρ)) := by
  obtain ⟨f0, f1, f2, f3⟩ := h.force
  obtain ⟨law, hl⟩ := h.law (x := μ 1322 1) (by omega)
  have hl : zLk μ (μ 1322 1) law := hl
  have ht := h.thrown zLR_ok
  refine c_S_moved (a0 := 0) (d1 := 6) (by omega) (k_S_isPlan (fun p q => ⟨fun c => absurd c (by decide), fun _ => k_S_within (fun p2 q2 => ⟨fun _ => k_S_movedBy (law := law) (by omega) h hl p q p2 q2 (fun ν c1 => ?_), fun c => absurd c (by decide)⟩) (fun c => ⟨fun q => absurd rfl q, fun _ => ?_⟩)⟩) (fun c => ⟨fun _ => ?_, fun q => absurd rfl q⟩))
  · have c2 := c1.trans (zCm.thrown (h.cm c1))
    have er := c2.row
    refine c_M_moved (a0 := 1320) (d1 := 6) (by omega) (k_M_isPlan (by omega) (fun _ _ => ⟨fun c => absurd c (by decide), fun _ => k_M_in (fun _ _ => ⟨fun c => absurd c (by decide), fun _ => k_M_movedOf (law := law) (by omega) (h.cm c2) (by rw [er]; exact hl.cm c2) p q p2 q2 (fun ν3 c3 => ?_)⟩) (fun c => absurd ⟨p2, q2⟩ c)⟩) (fun c => absurd ⟨p, q⟩ c))
    rw [er]
    exact hQ _ _ ((h.cm c2).cm c3)
  · exact c_M_moved (a0 := 1320) (d1 := 6) (by omega) (k_M_isPlan (by omega) (fun _ _ => ⟨fun c => absurd c (by decide), fun _ => k_M_in (fun a b => absurd ⟨a, b⟩ c) (fun _ => ⟨fun _ => hQ _ _ ht, fun q => absurd rfl q⟩)⟩) (fun c2 => absurd ⟨by assumption, by assumption⟩ c2))
  · exact c_M_moved (a0 := 1320) (d1 := 6) (by omega) (k_M_isPlan (by omega) (fun a b => absurd ⟨a, b⟩ c) (fun _ => ⟨fun _ => hQ _ _ ht, fun q => absurd rfl q⟩))
def zspan (ρ : Int → Int) (law : Option zLaw) (w mo : Int) : Nat → Int
  | 0 => -10000000
  | p + 1 => if ρ (10 + p) = 0 then zspan ρ law w mo p else if zspan ρ law w mo p = -10000000 then zmoved ρ p law w else if mo = 1 then (if zmoved ρ p law w ≤ zspan ρ law w mo p then zspan ρ law w mo p else zmoved ρ p law w) else (if zspan ρ law w mo p ≤ zmoved ρ p law w then zspan ρ law w mo p else zmoved ρ p law w)
theorem p_span {x y : Int} (h : zInv zLR μ) (hd : 7 ≤ d) (hQ : ∀ v ρ, zInv zLR ρ → Q v v ρ) : zCi X true l d 0 0 y_S_span [(12, 0, 0), (0, 0, x), (0, 0, y)] μ (fun v ν => zCi X true l d 0 0 y_M_span [(13, 0, 1320), (0, 0, x), (0, 0, y)] ν (fun w ρ => Q v w ρ)) := by
  obtain ⟨f0, f1, f2, f3⟩ := h.force
  obtain ⟨law, hl⟩ := h.law (x := μ 1322 1) (by omega)
  have hl : zLk μ (μ 1322 1) law := hl
  have ht := h.thrown zLR_ok
  refine c_S_span (a0 := 0) (d1 := 6) (by omega) (k_S_within (fun p q => ⟨fun c => absurd c (by decide), fun _ => k_S_within (fun p2 q2 => ⟨fun _ => ?_, fun c => absurd c (by decide)⟩) (fun c => ⟨fun q => absurd rfl q, fun _ => ?_⟩)⟩) (fun c => ⟨fun _ => ?_, fun q => absurd rfl q⟩))
  · have loop2 : ∀ k i : Nat, i + k = 6 → ∀ ν : zM, zCm μ ν → zE X true l d 0 0 y_M_span 38 [some (13, 0, 1320), some (0, 0, x), some (0, 0, y), some (0, 0, zspan (μ 1322) law x y i), some (0, 0, (i : Int)), none] [] ν (zri (fun w ρ => Q (zspan (μ 1322) law x y 6) w ρ)) := by
      intro k
      induction k with
      | zero =>
        intro i hi ν cν
        obtain rfl : i = 6 := by omega
        exact s_M_span_38 (a0 := 1320) (d1 := 6) (by omega) ⟨fun _ => hQ _ _ (h.cm cν), fun c => absurd (by decide) c⟩
      | succ k ih =>
        intro i hi ν cν
        have iν := h.cm cν
        obtain ⟨m0, m1, m2⟩ := iν.many (P := i) (by omega) (by omega)
        rw [cν.row] at m0 m1 m2
        refine s_M_span_38 (a0 := 1320) (d1 := 6) (by omega) ⟨fun c => absurd c (by omega), fun _ => ?_⟩
        simp only [Int.reduceAdd]
        rw [zw_of (x := 10 + (i : Int)) (by omega) (by omega), zw_of (x := (i : Int) + 1) (by omega) (by omega), cν.row]
        refine ⟨by omega, fun le => ?_, fun gt => k_M_movedOf (law := law) (by omega) iν (by rw [cν.row]; exact hl.cm cν) (by omega) (by omega) p q (fun ν3 c3 => ?_)⟩
        · have nx := ih (i + 1) (by omega) ν cν
          unfold zspan at nx
          rw [if_pos (show μ 1322 (10 + (i : Int)) = 0 by omega)] at nx
          exact nx
        · have nx := ih (i + 1) (by omega) ν3 (cν.trans c3)
          unfold zspan at nx
          rw [if_neg (show ¬ μ 1322 (10 + (i : Int)) = 0 by omega)] at nx
          rw [cν.row]
          refine ⟨fun e => ?_, fun e => ⟨fun n1 => ⟨fun c => ?_, fun c => ?_⟩, fun e1 => ⟨fun c => ?_, fun c => ?_⟩⟩⟩
          · rw [if_pos e] at nx; exact nx
          · rw [if_neg e, if_neg n1, if_pos c] at nx; exact nx
          · rw [if_neg e, if_neg n1, if_neg c] at nx; exact nx
          · rw [if_neg e, if_pos e1, if_pos c] at nx; exact nx
          · rw [if_neg e, if_pos e1, if_neg c] at nx; exact nx
    have loop1 : ∀ k i : Nat, i + k = 6 → ∀ ν : zM, zCm μ ν → zE X true l d 0 0 y_S_span 28 [some (12, 0, 0), some (0, 0, x), some (0, 0, y), some (0, 0, zspan (μ 1322) law x y i), some (0, 0, (i : Int)), none] [] ν (zri (fun v ν => zCi X true l d 0 0 y_M_span [(13, 0, 1320), (0, 0, x), (0, 0, y)] ν (fun w ρ => Q v w ρ))) := by
      intro k
      induction k with
      | zero =>
        intro i hi ν cν
        obtain rfl : i = 6 := by omega
        have c2 := cν.trans (zCm.thrown (h.cm cν))
        exact s_S_span_28 (a0 := 0) (d1 := 6) (by omega) ⟨fun _ => c_M_span (a0 := 1320) (d1 := 6) (by omega) (k_M_in (fun _ _ => ⟨fun c => absurd c (by decide), fun _ => k_M_in (fun _ _ => ⟨fun _ => loop2 6 0 rfl _ c2, fun c => absurd c (by decide)⟩) (fun c => absurd ⟨p2, q2⟩ c)⟩) (fun c => absurd ⟨p, q⟩ c)), fun c => absurd (by decide) c⟩
      | succ k ih =>
        intro i hi ν cν
        have iν := h.cm cν
        obtain ⟨m0, m1, m2⟩ := iν.many (P := i) (by omega) (by omega)
        rw [cν.row] at m0 m1 m2
        refine s_S_span_28 (a0 := 0) (d1 := 6) (by omega) ⟨fun c => absurd c (by omega), fun _ => ⟨by omega, ?_⟩⟩
        rw [show (0 : Int) + 1 + 1 + 21 + 6 * (i : Int) = 23 + 6 * i by omega, m0, zw_of (x := (i : Int) + 1) (by omega) (by omega)]
        refine ⟨fun gt => k_S_movedBy (law := law) (by omega) iν (by rw [cν.row]; exact hl.cm cν) (by omega) (by omega) p q (fun ν3 c3 => ?_), fun le => ?_⟩
        · have nx := ih (i + 1) (by omega) ν3 (cν.trans c3)
          unfold zspan at nx
          rw [if_neg gt] at nx
          rw [cν.row]
          refine ⟨fun e => ?_, fun e => ⟨fun n1 => ⟨fun c => ?_, fun c => ?_⟩, fun e1 => ⟨fun c => ?_, fun c => ?_⟩⟩⟩
          · rw [if_pos e] at nx; exact nx
          · rw [if_neg e, if_neg n1, if_pos c] at nx; exact nx
          · rw [if_neg e, if_neg n1, if_neg c] at nx; exact nx
          · rw [if_neg e, if_pos e1, if_pos c] at nx; exact nx
          · rw [if_neg e, if_pos e1, if_neg c] at nx; exact nx
        · have nx := ih (i + 1) (by omega) ν cν
          unfold zspan at nx
          rw [if_pos le] at nx
          exact nx
    exact loop1 6 0 rfl μ (zCm.refl h)
  · exact c_M_span (a0 := 1320) (d1 := 6) (by omega) (k_M_in (fun _ _ => ⟨fun c => absurd c (by decide), fun _ => k_M_in (fun a b => absurd ⟨a, b⟩ c) (fun _ => ⟨fun q => absurd rfl q, fun _ => hQ _ _ ht⟩)⟩) (fun c2 => absurd ⟨by assumption, by assumption⟩ c2))
  · exact c_M_span (a0 := 1320) (d1 := 6) (by omega) (k_M_in (fun a b => absurd ⟨a, b⟩ c) (fun _ => ⟨fun _ => hQ _ _ ht, fun q => absurd rfl q⟩))
end

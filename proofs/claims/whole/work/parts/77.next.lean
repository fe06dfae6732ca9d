/-! next -/
section
variable {X : zX} {l : Launch} {d : Nat} {μ : zM} {Q : Int → Int → zM → Prop}
def znok (ρ : Int → Int) (p : Int) : Bool := decide (ρ (10 + p) ≠ 0)
def znv (ρ : Int → Int) (a b : Option zLaw) (p : Int) : Int := zapt (zanyv ρ p a (-1)) (zanyv ρ p b (-1))
theorem p_next {x y z : Int} (h : zInv zLR μ) (hd : 7 ≤ d) (hQ : ∀ v ρ, zInv zLR ρ → Q v v ρ) : zCi X true l d 0 0 y_S_next [(12, 0, 0), (0, 0, x), (0, 0, y), (0, 0, z)] μ (fun v ν => zCi X true l d 0 0 y_M_next_IIII [(13, 0, 1320), (0, 0, x), (0, 0, y), (0, 0, z)] ν (fun w ρ => Q v w ρ)) := by
  have e7 := h.nlaws
  have r3 := h.rb.2.2.2.1
  have i0 := h.thrown zLR_ok
  have e0 := (zCm.thrown h).row
  have nope : ¬ ((0 ≤ x ∧ x < μ 1322 3) ∧ (0 ≤ y ∧ y < μ 1322 3) ∧ (0 ≤ z ∧ z ≤ 1)) → zCi X true l d 0 0 y_M_next_IIII [(13, 0, 1320), (0, 0, x), (0, 0, y), (0, 0, z)] μ (fun w ρ => Q (-1) w ρ) := fun no =>
    c_M_next_IIII (a0 := 1320) (d1 := 6) (by omega) (k_M_isLaw (by omega) (by rw [e0]; omega) (fun a1 a2 => ⟨fun c => absurd c (by decide), fun _ => k_M_isLaw (by omega) (by rw [e0]; omega) (fun b1 b2 => ⟨fun c => absurd c (by decide), fun _ => k_M_in (fun c1 c2 => absurd (by rw [e0] at a2 b2; exact ⟨⟨a1, a2⟩, ⟨b1, b2⟩, ⟨c1, c2⟩⟩) no) (fun _ => ⟨fun q => absurd rfl q, fun _ => hQ _ _ i0⟩)⟩) (fun _ => ⟨fun _ => hQ _ _ i0, fun q => absurd rfl q⟩)⟩) (fun _ => ⟨fun _ => hQ _ _ i0, fun q => absurd rfl q⟩))
  refine c_S_next (a0 := 0) (d1 := 6) (by omega) (k_S_isLaw (fun a1 a2 a3 => ⟨fun c => absurd c (by decide), fun _ => k_S_isLaw (fun b1 b2 b3 => ⟨fun c => absurd c (by decide), fun _ => k_S_within (fun c1 c2 => ⟨fun _ => ?_, fun c => absurd c (by decide)⟩) (fun c => ⟨fun q => absurd rfl q, fun _ => nope (fun q => c q.2.2)⟩)⟩) (fun c => ⟨fun _ => nope (fun q => c (by omega)), fun q => absurd rfl q⟩)⟩) (fun c => ⟨fun _ => nope (fun q => c (by omega)), fun q => absurd rfl q⟩))
  obtain ⟨lx, hlx⟩ := h.law (x := x) (by omega)
  obtain ⟨ly, hly⟩ := h.law (x := y) (by omega)
  have hlx : zLk μ x lx := hlx
  have hly : zLk μ y ly := hly
  have loop2 : ∀ k p : Nat, p + k = 6 → ∀ ν' : zM, zCm μ ν' → zE X true l d 0 0 y_M_next_IIII 42 [some (13, 0, 1320), some (0, 0, x), some (0, 0, y), some (0, 0, z), some (0, 0, (zbest (znok (μ 1322)) (znv (μ 1322) lx ly) p).1), some (0, 0, (zbest (znok (μ 1322)) (znv (μ 1322) lx ly) p).2), some (0, 0, (p : Int)), none] [] ν' (zri (fun w ρ => Q (if ¬ z = 0 then (zbest (znok (μ 1322)) (znv (μ 1322) lx ly) 6).2 else (zbest (znok (μ 1322)) (znv (μ 1322) lx ly) 6).1) w ρ)) := by
    intro k
    induction k with
    | zero =>
      intro p hp ν' cν
      obtain rfl : p = 6 := by omega
      exact s_M_next_IIII_42 (a0 := 1320) (d1 := 6) (by omega) ⟨fun _ => hQ _ _ (h.cm cν), fun c => absurd (by decide) c⟩
    | succ k ih =>
      intro p hp ν' cν
      have iν := h.cm cν
      obtain ⟨m0, m1, m2⟩ := iν.many (P := p) (by omega) (by omega)
      rw [cν.row] at m0 m1 m2
      refine s_M_next_IIII_42 (a0 := 1320) (d1 := 6) (by omega) ⟨fun c => absurd c (by omega), fun _ => ?_⟩
      simp only [Int.reduceAdd]
      rw [zw_of (x := 10 + (p : Int)) (by omega) (by omega), zw_of (x := (p : Int) + 1) (by omega) (by omega), cν.row]
      refine ⟨by omega, fun le => ?_, fun gt => k_M_anyOf (law := lx) (by omega) iν (hlx.cm cν) (by omega) (by omega) (fun ν2 t2 => k_M_anyOf (law := ly) (by omega) (iν.cm t2) ((hly.cm cν).cm t2) (by omega) (by omega) (fun ν3 t3 => ?_))⟩
      · have e := zbest_no (ok := znok (μ 1322)) (v := znv (μ 1322) lx ly) (p := p) (by unfold znok; exact decide_eq_false (fun q => q (by omega)))
        have nx := ih (p + 1) (by omega) ν' cν
        rw [e] at nx
        exact nx
      · have e := zbest_ok (ok := znok (μ 1322)) (v := znv (μ 1322) lx ly) (p := p) (by unfold znok; exact decide_eq_true (by omega))
        have nx := ih (p + 1) (by omega) ν3 ((cν.trans t2).trans t3)
        rw [t2.row, cν.row, zapt_m zanyv_bd zanyv_bd, show zapt (zanyv (μ 1322) p lx (-1)) (zanyv (μ 1322) p ly (-1)) = znv (μ 1322) lx ly p from rfl]
        rw [e] at nx
        by_cases q : znv (μ 1322) lx ly p ≤ (zbest (znok (μ 1322)) (znv (μ 1322) lx ly) p).2
        · rw [if_pos q] at nx
          rw [if_pos q, if_pos q]
          exact nx
        · rw [if_neg q] at nx
          rw [if_neg q, if_neg q]
          exact nx
  have loop1 : ∀ k p : Nat, p + k = 6 → ∀ ν' : zM, zCm μ ν' → zE X true l d 0 0 y_S_next 36 [some (12, 0, 0), some (0, 0, x), some (0, 0, y), some (0, 0, z), some (0, 0, (zbest (znok (μ 1322)) (znv (μ 1322) lx ly) p).1), some (0, 0, (zbest (znok (μ 1322)) (znv (μ 1322) lx ly) p).2), some (0, 0, (p : Int)), none] [] ν' (zri (fun v ν => zCi X true l d 0 0 y_M_next_IIII [(13, 0, 1320), (0, 0, x), (0, 0, y), (0, 0, z)] ν (fun w ρ => Q v w ρ))) := by
    intro k
    induction k with
    | zero =>
      intro p hp ν' cν
      obtain rfl : p = 6 := by omega
      refine s_S_next_36 (a0 := 0) (d1 := 6) (by omega) ⟨fun _ => ?_, fun c => absurd (by decide) c⟩
      have c2 := cν.trans (zCm.thrown (h.cm cν))
      have er := c2.row
      exact c_M_next_IIII (a0 := 1320) (d1 := 6) (by omega) (k_M_isLaw (by omega) (by rw [er]; omega) (fun _ _ => ⟨fun c => absurd c (by decide), fun _ => k_M_isLaw (by omega) (by rw [er]; omega) (fun _ _ => ⟨fun c => absurd c (by decide), fun _ => k_M_in (fun _ _ => ⟨fun _ => loop2 6 0 rfl _ c2, fun c => absurd c (by decide)⟩) (fun c => absurd ⟨c1, by omega⟩ c)⟩) (fun c => absurd ⟨b1, by rw [er]; omega⟩ c)⟩) (fun c => absurd ⟨a1, by rw [er]; omega⟩ c))
    | succ k ih =>
      intro p hp ν' cν
      have iν := h.cm cν
      obtain ⟨m0, m1, m2⟩ := iν.many (P := p) (by omega) (by omega)
      rw [cν.row] at m0 m1 m2
      refine s_S_next_36 (a0 := 0) (d1 := 6) (by omega) ⟨fun c => absurd c (by omega), fun _ => ⟨by omega, ?_⟩⟩
      rw [show (0 : Int) + 1 + 1 + 21 + 6 * (p : Int) = 23 + 6 * p by omega, m0, zw_of (x := (p : Int) + 1) (by omega) (by omega)]
      refine ⟨fun gt => k_S_anyOf (law := lx) (by omega) iν (hlx.cm cν) (by omega) (by omega) (by omega) (fun ν2 t2 => k_S_anyOf (law := ly) (by omega) (iν.cm t2) ((hly.cm cν).cm t2) (by omega) (by omega) (by omega) (fun ν3 t3 => ?_)), fun le => ?_⟩
      · have e := zbest_ok (ok := znok (μ 1322)) (v := znv (μ 1322) lx ly) (p := p) (by unfold znok; exact decide_eq_true gt)
        have nx := ih (p + 1) (by omega) ν3 ((cν.trans t2).trans t3)
        rw [t2.row, cν.row, zapt_m zanyv_bd zanyv_bd]
        rw [e] at nx
        refine ⟨fun q => ?_, fun q => ?_⟩
        · rw [if_pos (show znv (μ 1322) lx ly p ≤ _ from q)] at nx
          exact nx
        · rw [if_neg (show ¬ znv (μ 1322) lx ly p ≤ _ from q)] at nx
          exact nx
      · have e := zbest_no (ok := znok (μ 1322)) (v := znv (μ 1322) lx ly) (p := p) (by unfold znok; exact decide_eq_false (fun q => q le))
        have nx := ih (p + 1) (by omega) ν' cν
        rw [e] at nx
        exact nx
  exact loop1 6 0 rfl μ (zCm.refl h)
end

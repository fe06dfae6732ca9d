/-! moved, span: what is altered -/
def zalt (δ : Nat → Int → Int) (w : Int) (n : Nat) (p : Int) : Int := match n with
  | 4 => if w = 0 then 31 else if w = 1 then 0 else δ 4 p
  | 8 => if w = 2 then 0 else if w = 3 then -1 else δ 8 p
  | 0 => if w = 4 then 0 else δ 0 p
  | 9 => if w = 5 then 99 else if w = 6 then 0 else δ 9 p
  | 2 => if w = 7 then 31 else if w = 8 then 0 else δ 2 p
  | 3 => if w = 9 then 31 else if w = 10 then 0 else δ 3 p
  | n => δ n p
theorem zalt_db {δ : Nat → Int → Int} {w : Int} (h : zDb δ) : zDb (zalt δ w) := by
  refine ⟨fun p p0 p1 => ?_, fun g g0 g1 => ?_, h.2.2⟩
  · obtain ⟨a0, a2, a3, a4, a5, a6, a7⟩ := h.1 p p0 p1
    refine ⟨?_, ?_, ?_, ?_, a5, a6, a7⟩
    · show 0 ≤ (if w = 4 then 0 else δ 0 p) ∧ (if w = 4 then 0 else δ 0 p) ≤ 2
      split <;> omega
    · show 0 ≤ (if w = 7 then 31 else if w = 8 then 0 else δ 2 p) ∧ (if w = 7 then 31 else if w = 8 then 0 else δ 2 p) < 32
      repeat' split
      all_goals omega
    · show 0 ≤ (if w = 9 then 31 else if w = 10 then 0 else δ 3 p) ∧ (if w = 9 then 31 else if w = 10 then 0 else δ 3 p) < 32
      repeat' split
      all_goals omega
    · show 0 ≤ (if w = 0 then 31 else if w = 1 then 0 else δ 4 p) ∧ (if w = 0 then 31 else if w = 1 then 0 else δ 4 p) < 32
      repeat' split
      all_goals omega
  · show 0 ≤ (if w = 5 then 99 else if w = 6 then 0 else δ 9 g) ∧ (if w = 5 then 99 else if w = 6 then 0 else δ 9 g) ≤ 99
    have := h.2.1 g g0 g1
    repeat' split
    all_goals omega
section
variable {X : zX} {l : Launch} {d : Nat} {μ : zM} {δ : Nat → Int → Int}
theorem zfl_in {a i n v j : Int} (h : i ≤ j ∧ j < n) : zfl μ a i n v a j = v := by
  unfold zfl
  rw [if_pos ⟨rfl, h⟩]
theorem zfl_ne {a i n v b : Int} (h : b ≠ a) : zfl μ a i n v b = μ b := by
  funext j
  unfold zfl
  rw [if_neg (fun q => h q.1)]
theorem k_alter {w : Int} {Q : zM → Prop} (hd : 1 ≤ d) (hC : zCd μ δ) (w0 : 0 ≤ w) (w1 : w ≤ 10) (hQ : ∀ ν, (∀ b : Int, ¬ (107 ≤ b ∧ b ≤ 118) → ν b = μ b) → zCd ν (zalt δ w) → Q ν) : zCv X true l d 0 0 y_Scene_alter [(10, 0, 106), (0, 0, w)] μ Q := by
  obtain ⟨c1, c2, c3⟩ := hC
  have fill : ∀ (c v : Int) (L : Nat), 107 ≤ c ∧ c ≤ 118 → L < 13 → zCd (zfl μ c 0 L v) (zalt δ w) → zCv X true l 0 0 0 y_Arrays_fill [(14, L, c), (0, 0, v)] μ Q := fun c v L hc hL hz => k_fill (by omega) (hQ _ (fun b hb => zfl_ne (by omega)) hz)
  refine c_Scene_alter (a0 := 106) (d1 := 0) (by omega) ⟨fun e => ?_, fun e => ?_, fun e => ?_, fun e => ?_, fun e => ?_, fun e => ?_, fun e => ?_, fun e => ?_, fun e => ?_, fun e => ?_, fun e => ?_, fun e => absurd e (by omega)⟩
  all_goals subst e
  · refine fill 117 31 5 (by decide) (by decide) ⟨fun p p0 p1 => ?_, fun g g0 g1 => ?_, ?_⟩
    · simp only [zfl_ne (show (108 : Int) ≠ 117 by decide), zfl_ne (show (109 : Int) ≠ 117 by decide), zfl_ne (show (110 : Int) ≠ 117 by decide), zfl_ne (show (111 : Int) ≠ 117 by decide), zfl_ne (show (112 : Int) ≠ 117 by decide), zfl_ne (show (114 : Int) ≠ 117 by decide), zfl_ne (show (115 : Int) ≠ 117 by decide), zfl_ne (show (116 : Int) ≠ 117 by decide), zfl_in (show (0 : Int) ≤ p ∧ p < ((5 : Nat) : Int) from ⟨p0, p1⟩)]
      obtain ⟨t0, t1, t2, t3, t4, t5, t6, t7, t8⟩ := c1 p p0 p1
      exact ⟨t0, t1, t2, t3, rfl, t5, t6, t7, t8⟩
    · rw [zfl_ne (by decide)]; exact c2 g g0 g1
    · rw [zfl_ne (by decide)]; exact c3
  · refine fill 117 0 5 (by decide) (by decide) ⟨fun p p0 p1 => ?_, fun g g0 g1 => ?_, ?_⟩
    · simp only [zfl_ne (show (108 : Int) ≠ 117 by decide), zfl_ne (show (109 : Int) ≠ 117 by decide), zfl_ne (show (110 : Int) ≠ 117 by decide), zfl_ne (show (111 : Int) ≠ 117 by decide), zfl_ne (show (112 : Int) ≠ 117 by decide), zfl_ne (show (114 : Int) ≠ 117 by decide), zfl_ne (show (115 : Int) ≠ 117 by decide), zfl_ne (show (116 : Int) ≠ 117 by decide), zfl_in (show (0 : Int) ≤ p ∧ p < ((5 : Nat) : Int) from ⟨p0, p1⟩)]
      obtain ⟨t0, t1, t2, t3, t4, t5, t6, t7, t8⟩ := c1 p p0 p1
      exact ⟨t0, t1, t2, t3, rfl, t5, t6, t7, t8⟩
    · rw [zfl_ne (by decide)]; exact c2 g g0 g1
    · rw [zfl_ne (by decide)]; exact c3
  · refine fill 112 0 5 (by decide) (by decide) ⟨fun p p0 p1 => ?_, fun g g0 g1 => ?_, ?_⟩
    · simp only [zfl_ne (show (108 : Int) ≠ 112 by decide), zfl_ne (show (109 : Int) ≠ 112 by decide), zfl_ne (show (110 : Int) ≠ 112 by decide), zfl_ne (show (111 : Int) ≠ 112 by decide), zfl_ne (show (117 : Int) ≠ 112 by decide), zfl_ne (show (114 : Int) ≠ 112 by decide), zfl_ne (show (115 : Int) ≠ 112 by decide), zfl_ne (show (116 : Int) ≠ 112 by decide), zfl_in (show (0 : Int) ≤ p ∧ p < ((5 : Nat) : Int) from ⟨p0, p1⟩)]
      obtain ⟨t0, t1, t2, t3, t4, t5, t6, t7, t8⟩ := c1 p p0 p1
      exact ⟨t0, t1, t2, t3, t4, t5, t6, t7, rfl⟩
    · rw [zfl_ne (by decide)]; exact c2 g g0 g1
    · rw [zfl_ne (by decide)]; exact c3
  · refine fill 112 (-1) 5 (by decide) (by decide) ⟨fun p p0 p1 => ?_, fun g g0 g1 => ?_, ?_⟩
    · simp only [zfl_ne (show (108 : Int) ≠ 112 by decide), zfl_ne (show (109 : Int) ≠ 112 by decide), zfl_ne (show (110 : Int) ≠ 112 by decide), zfl_ne (show (111 : Int) ≠ 112 by decide), zfl_ne (show (117 : Int) ≠ 112 by decide), zfl_ne (show (114 : Int) ≠ 112 by decide), zfl_ne (show (115 : Int) ≠ 112 by decide), zfl_ne (show (116 : Int) ≠ 112 by decide), zfl_in (show (0 : Int) ≤ p ∧ p < ((5 : Nat) : Int) from ⟨p0, p1⟩)]
      obtain ⟨t0, t1, t2, t3, t4, t5, t6, t7, t8⟩ := c1 p p0 p1
      exact ⟨t0, t1, t2, t3, t4, t5, t6, t7, rfl⟩
    · rw [zfl_ne (by decide)]; exact c2 g g0 g1
    · rw [zfl_ne (by decide)]; exact c3
  · refine fill 108 0 5 (by decide) (by decide) ⟨fun p p0 p1 => ?_, fun g g0 g1 => ?_, ?_⟩
    · simp only [zfl_ne (show (112 : Int) ≠ 108 by decide), zfl_ne (show (109 : Int) ≠ 108 by decide), zfl_ne (show (110 : Int) ≠ 108 by decide), zfl_ne (show (111 : Int) ≠ 108 by decide), zfl_ne (show (117 : Int) ≠ 108 by decide), zfl_ne (show (114 : Int) ≠ 108 by decide), zfl_ne (show (115 : Int) ≠ 108 by decide), zfl_ne (show (116 : Int) ≠ 108 by decide), zfl_in (show (0 : Int) ≤ p ∧ p < ((5 : Nat) : Int) from ⟨p0, p1⟩)]
      obtain ⟨t0, t1, t2, t3, t4, t5, t6, t7, t8⟩ := c1 p p0 p1
      exact ⟨rfl, t1, t2, t3, t4, t5, t6, t7, t8⟩
    · rw [zfl_ne (by decide)]; exact c2 g g0 g1
    · rw [zfl_ne (by decide)]; exact c3
  · refine fill 118 99 12 (by decide) (by decide) ⟨fun p p0 p1 => ?_, fun g g0 g1 => ?_, ?_⟩
    · simp only [zfl_ne (show (108 : Int) ≠ 118 by decide), zfl_ne (show (112 : Int) ≠ 118 by decide), zfl_ne (show (109 : Int) ≠ 118 by decide), zfl_ne (show (110 : Int) ≠ 118 by decide), zfl_ne (show (111 : Int) ≠ 118 by decide), zfl_ne (show (117 : Int) ≠ 118 by decide), zfl_ne (show (114 : Int) ≠ 118 by decide), zfl_ne (show (115 : Int) ≠ 118 by decide), zfl_ne (show (116 : Int) ≠ 118 by decide)]
      exact c1 p p0 p1
    · exact zfl_in (show (0 : Int) ≤ g ∧ g < ((12 : Nat) : Int) from ⟨g0, g1⟩)
    · rw [zfl_ne (by decide)]; exact c3
  · refine fill 118 0 12 (by decide) (by decide) ⟨fun p p0 p1 => ?_, fun g g0 g1 => ?_, ?_⟩
    · simp only [zfl_ne (show (108 : Int) ≠ 118 by decide), zfl_ne (show (112 : Int) ≠ 118 by decide), zfl_ne (show (109 : Int) ≠ 118 by decide), zfl_ne (show (110 : Int) ≠ 118 by decide), zfl_ne (show (111 : Int) ≠ 118 by decide), zfl_ne (show (117 : Int) ≠ 118 by decide), zfl_ne (show (114 : Int) ≠ 118 by decide), zfl_ne (show (115 : Int) ≠ 118 by decide), zfl_ne (show (116 : Int) ≠ 118 by decide)]
      exact c1 p p0 p1
    · exact zfl_in (show (0 : Int) ≤ g ∧ g < ((12 : Nat) : Int) from ⟨g0, g1⟩)
    · rw [zfl_ne (by decide)]; exact c3
  · refine fill 110 31 5 (by decide) (by decide) ⟨fun p p0 p1 => ?_, fun g g0 g1 => ?_, ?_⟩
    · simp only [zfl_ne (show (112 : Int) ≠ 110 by decide), zfl_ne (show (109 : Int) ≠ 110 by decide), zfl_ne (show (108 : Int) ≠ 110 by decide), zfl_ne (show (111 : Int) ≠ 110 by decide), zfl_ne (show (117 : Int) ≠ 110 by decide), zfl_ne (show (114 : Int) ≠ 110 by decide), zfl_ne (show (115 : Int) ≠ 110 by decide), zfl_ne (show (116 : Int) ≠ 110 by decide), zfl_in (show (0 : Int) ≤ p ∧ p < ((5 : Nat) : Int) from ⟨p0, p1⟩)]
      obtain ⟨t0, t1, t2, t3, t4, t5, t6, t7, t8⟩ := c1 p p0 p1
      exact ⟨t0, t1, rfl, t3, t4, t5, t6, t7, t8⟩
    · rw [zfl_ne (by decide)]; exact c2 g g0 g1
    · rw [zfl_ne (by decide)]; exact c3
  · refine fill 110 0 5 (by decide) (by decide) ⟨fun p p0 p1 => ?_, fun g g0 g1 => ?_, ?_⟩
    · simp only [zfl_ne (show (112 : Int) ≠ 110 by decide), zfl_ne (show (109 : Int) ≠ 110 by decide), zfl_ne (show (108 : Int) ≠ 110 by decide), zfl_ne (show (111 : Int) ≠ 110 by decide), zfl_ne (show (117 : Int) ≠ 110 by decide), zfl_ne (show (114 : Int) ≠ 110 by decide), zfl_ne (show (115 : Int) ≠ 110 by decide), zfl_ne (show (116 : Int) ≠ 110 by decide), zfl_in (show (0 : Int) ≤ p ∧ p < ((5 : Nat) : Int) from ⟨p0, p1⟩)]
      obtain ⟨t0, t1, t2, t3, t4, t5, t6, t7, t8⟩ := c1 p p0 p1
      exact ⟨t0, t1, rfl, t3, t4, t5, t6, t7, t8⟩
    · rw [zfl_ne (by decide)]; exact c2 g g0 g1
    · rw [zfl_ne (by decide)]; exact c3
  · refine fill 111 31 5 (by decide) (by decide) ⟨fun p p0 p1 => ?_, fun g g0 g1 => ?_, ?_⟩
    · simp only [zfl_ne (show (112 : Int) ≠ 111 by decide), zfl_ne (show (109 : Int) ≠ 111 by decide), zfl_ne (show (108 : Int) ≠ 111 by decide), zfl_ne (show (110 : Int) ≠ 111 by decide), zfl_ne (show (117 : Int) ≠ 111 by decide), zfl_ne (show (114 : Int) ≠ 111 by decide), zfl_ne (show (115 : Int) ≠ 111 by decide), zfl_ne (show (116 : Int) ≠ 111 by decide), zfl_in (show (0 : Int) ≤ p ∧ p < ((5 : Nat) : Int) from ⟨p0, p1⟩)]
      obtain ⟨t0, t1, t2, t3, t4, t5, t6, t7, t8⟩ := c1 p p0 p1
      exact ⟨t0, t1, t2, rfl, t4, t5, t6, t7, t8⟩
    · rw [zfl_ne (by decide)]; exact c2 g g0 g1
    · rw [zfl_ne (by decide)]; exact c3
  · refine fill 111 0 5 (by decide) (by decide) ⟨fun p p0 p1 => ?_, fun g g0 g1 => ?_, ?_⟩
    · simp only [zfl_ne (show (112 : Int) ≠ 111 by decide), zfl_ne (show (109 : Int) ≠ 111 by decide), zfl_ne (show (108 : Int) ≠ 111 by decide), zfl_ne (show (110 : Int) ≠ 111 by decide), zfl_ne (show (117 : Int) ≠ 111 by decide), zfl_ne (show (114 : Int) ≠ 111 by decide), zfl_ne (show (115 : Int) ≠ 111 by decide), zfl_ne (show (116 : Int) ≠ 111 by decide), zfl_in (show (0 : Int) ≤ p ∧ p < ((5 : Nat) : Int) from ⟨p0, p1⟩)]
      obtain ⟨t0, t1, t2, t3, t4, t5, t6, t7, t8⟩ := c1 p p0 p1
      exact ⟨t0, t1, t2, rfl, t4, t5, t6, t7, t8⟩
    · rw [zfl_ne (by decide)]; exact c2 g g0 g1
    · rw [zfl_ne (by decide)]; exact c3
end

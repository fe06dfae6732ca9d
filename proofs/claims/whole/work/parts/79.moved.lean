/-! moved, span: the reference's row as it is made, and the two alike -/
def zmk1 (ρ : Int → Int) (P w : Int) (i : Nat) (j : Int) : Int :=
  if w < 2 then (if 190 ≤ j ∧ j < 190 + i then (if w = 0 then zand 31 (zxor (zshl 1 (j - 190)) (-1)) else 0) else ρ j)
  else if w < 4 then (if 160 + 5 * P ≤ j ∧ j < 160 + 5 * P + i then (if w = 2 then 0 else -1) else ρ j)
  else if w = 4 then (if 40 + 10 * P ≤ j ∧ j < 40 + 10 * P + 2 * i ∧ j % 2 = 0 then 0 else ρ j)
  else if w ≤ 6 then ρ j
  else if w ≤ 8 then (if 100 + 10 * P ≤ j ∧ j < 100 + 10 * P + i then (if w = 7 then zand 31 (zxor (zshl 1 (j - (100 + 10 * P))) (-1)) else 0) else ρ j)
  else (if 105 + 10 * P ≤ j ∧ j < 105 + 10 * P + i then (if w = 9 then zand 31 (zxor (zshl 1 (j - (105 + 10 * P))) (-1)) else 0) else ρ j)
def zmk2 (ρ : Int → Int) (w : Int) (k : Nat) (j : Int) : Int := if (w = 5 ∨ w = 6) ∧ 200 ≤ j ∧ j < 200 + k then (if w = 5 then 99 else 0) else ρ j
theorem zput {V ρ : Int → Int} {lo j : Int} (i : Nat) : (if lo ≤ j ∧ j < lo + ((i + 1 : Nat) : Int) then V j else ρ j) = if j = lo + i then V (lo + i) else (if lo ≤ j ∧ j < lo + i then V j else ρ j) := by
  by_cases c : j = lo + i
  · rw [if_pos c, if_pos (show lo ≤ j ∧ j < lo + ((i + 1 : Nat) : Int) by omega), c]
  · rw [if_neg c]
    by_cases c2 : lo ≤ j ∧ j < lo + i
    · rw [if_pos c2, if_pos (show lo ≤ j ∧ j < lo + ((i + 1 : Nat) : Int) by omega)]
    · rw [if_neg c2, if_neg (show ¬ (lo ≤ j ∧ j < lo + ((i + 1 : Nat) : Int)) by omega)]
section
variable {X : zX} {l : Launch} {d : Nat} {μ : zM}
theorem zup_row {ν : zM} {a i v : Int} {f : Int → Int} (h : ∀ j : Int, (if j = i then v else ν a j) = f j) : zup ν a i v a = f := by
  funext j
  rw [zup_val]
  exact h j
theorem k_makeSo {P w : Int} {Q : zM → Prop} (hR : zRB (μ 1322)) (P0 : 0 ≤ P) (P1 : P < 6) (w0 : 0 ≤ w) (w1 : w ≤ 10) (hQ : ∀ ν, (∀ b : Int, b ≠ 1322 → ν b = μ b) → ν 1322 = zmk2 (zmk1 (μ 1322) P w 5) w 12 → zRB (ν 1322) → Q ν) : zCv X true l d 0 0 y_M_makeSo [(13, 0, 1320), (0, 0, P), (0, 0, w)] μ Q := by
  have bz : ∀ x : Int, 0 ≤ zand 31 x ∧ zand 31 x < 32 := fun x => zand_bd x (by decide) (by decide)
  have l155 : ∀ m i : Nat, i + m = 12 → ∀ ν : zM, (∀ b : Int, b ≠ 1322 → ν b = μ b) → ν 1322 = zmk2 (zmk1 (μ 1322) P w 5) w i → zRB (ν 1322) → zE X true l d 0 0 y_M_makeSo 155 [some (13, 0, 1320), none, some (0, 0, w), some (0, 0, (i : Int)), none] [] ν (zrn Q) := by
    intro m
    induction m with
    | zero =>
      intro i hi ν n1 n2 n3
      obtain rfl : i = 12 := by omega
      exact s_M_makeSo_155 ⟨fun _ => hQ ν n1 n2 n3, fun c => absurd (by decide) c⟩
    | succ m ih =>
      intro i hi ν n1 n2 n3
      have st : w = 5 ∨ w = 6 → zE X true l d 0 0 y_M_makeSo 172 [some (13, 0, 1320), none, some (0, 0, w), some (0, 0, (i : Int)), none] [] ν (zrn Q) := fun hw => by
        refine s_M_makeSo_172 (a0 := 1320) ?_
        simp only [Int.reduceAdd]
        rw [zw_of (x := 200 + (i : Int)) (by omega) (by omega), zw_of (x := (i : Int) + 1) (by omega) (by omega)]
        have e : (if ¬ w = 5 then (0 : Int) else 99) = if w = 5 then 99 else 0 := by by_cases q : w = 5 <;> simp [q]
        rw [e]
        have e2 : zup ν 1322 (200 + i) (if w = 5 then 99 else 0) 1322 = zrw (ν 1322) (200 + i) (if w = 5 then 99 else 0) := zup_row (fun j => rfl)
        refine ⟨by omega, ih (i + 1) (by omega) _ (fun b hb => (zup_ne hb).trans (n1 b hb)) (zup_row (fun j => ?_)) ?_⟩
        · have z : ∀ k : Nat, zmk2 (zmk1 (μ 1322) P w 5) w k j = if 200 ≤ j ∧ j < 200 + k then (fun _ => if w = 5 then (99 : Int) else 0) j else zmk1 (μ 1322) P w 5 j := fun k => by
            unfold zmk2
            by_cases c : 200 ≤ j ∧ j < 200 + k
            · rw [if_pos c, if_pos (show (w = 5 ∨ w = 6) ∧ 200 ≤ j ∧ j < 200 + k from ⟨hw, c⟩)]
            · rw [if_neg c, if_neg (show ¬ ((w = 5 ∨ w = 6) ∧ 200 ≤ j ∧ j < 200 + k) from fun q => c q.2)]
          rw [n2, z, z, zput (V := fun _ => if w = 5 then (99 : Int) else 0)]
        · rw [e2]
          exact n3.up (by split <;> omega)
      refine s_M_makeSo_155 ⟨fun c => absurd c (by omega), fun _ => ⟨fun e => st (Or.inl e), fun e => ⟨fun e2 => hQ ν n1 ?_ n3, fun e2 => st (Or.inr e2)⟩⟩⟩
      rw [n2]
      funext j
      unfold zmk2
      rw [if_neg (fun q => by omega), if_neg (fun q => by omega)]
  have l2 : ∀ m i : Nat, i + m = 5 → ∀ ν : zM, (∀ b : Int, b ≠ 1322 → ν b = μ b) → ν 1322 = zmk1 (μ 1322) P w i → zRB (ν 1322) → zE X true l d 0 0 y_M_makeSo 2 [some (13, 0, 1320), some (0, 0, P), some (0, 0, w), some (0, 0, (i : Int)), none] [] ν (zrn Q) := by
    intro m
    induction m with
    | zero =>
      intro i hi ν n1 n2 n3
      obtain rfl : i = 5 := by omega
      refine s_M_makeSo_2 ⟨fun _ => l155 12 0 rfl ν n1 ?_ n3, fun c => absurd (by decide) c⟩
      rw [n2]
      funext j
      unfold zmk2
      rw [if_neg (fun q => by omega)]
    | succ m ih =>
      intro i hi ν n1 n2 n3
      -- one place of the row
      have st : ∀ a v : Int, (∀ j : Int, zmk1 (μ 1322) P w (i + 1) j = if j = a then v else zmk1 (μ 1322) P w i j) → zRB (zrw (ν 1322) a v) → zE X true l d 0 0 y_M_makeSo 2 [some (13, 0, 1320), some (0, 0, P), some (0, 0, w), some (0, 0, (i : Int) + 1), none] [] (zup ν 1322 a v) (zrn Q) := fun a v hj hr => by
        have e2 : zup ν 1322 a v 1322 = zrw (ν 1322) a v := zup_row (fun j => rfl)
        refine ih (i + 1) (by omega) _ (fun b hb => (zup_ne hb).trans (n1 b hb)) (zup_row (fun j => ?_)) (by rw [e2]; exact hr)
        rw [n2, hj]
      have c5 : ¬ 5 ≤ (i : Int) := by omega
      refine s_M_makeSo_2 (a0 := 1320) ⟨fun c => absurd c c5, fun _ => ?_⟩
      simp only [Int.reduceAdd]
      rw [zw_of (x := (i : Int) + 1) (by omega) (by omega)]
      refine ⟨fun g2 => ⟨fun g4 => ⟨fun n4 => ⟨fun g6 => ?_, fun g6 => ?_⟩, fun e4 => ?_⟩, fun g4 => ?_⟩, fun g2 => ?_⟩
      · refine ih (i + 1) (by omega) ν n1 ?_ n3
        rw [n2]
        funext j
        unfold zmk1
        rw [if_neg (by omega), if_neg (by omega), if_neg n4, if_pos g6, if_neg (by omega), if_neg (by omega), if_neg n4, if_pos g6]
      · have w78 : w = 7 ∨ w = 8 ∨ w = 9 ∨ w = 10 := by omega
        by_cases le : w ≤ 8
        · have ea : zw (zw (zw (100 + zw (10 * P)) + (if w ≤ 8 then (0 : Int) else 5)) + i) = 100 + 10 * P + i := by
            rw [if_pos le, zw_of (x := 10 * P) (by omega) (by omega), zw_of (x := 100 + 10 * P) (by omega) (by omega), zw_of (x := 100 + 10 * P + 0) (by omega) (by omega), zw_of (by omega) (by omega)]; omega
          have ev : (if ¬ zremi w 2 = 1 then (0 : Int) else zand 31 (zxor (zshl 1 i) (-1))) = if w = 7 then zand 31 (zxor (zshl 1 i) (-1)) else 0 := by
            have : w = 7 ∨ w = 8 := by omega
            rcases this with rfl | rfl
            · rw [if_neg (by decide), if_pos rfl]
            · rw [if_pos (by decide), if_neg (by decide)]
          rw [ea, ev]
          have z : ∀ (k : Nat) (j : Int), zmk1 (μ 1322) P w k j = if 100 + 10 * P ≤ j ∧ j < 100 + 10 * P + k then (fun j => if w = 7 then zand 31 (zxor (zshl 1 (j - (100 + 10 * P))) (-1)) else 0) j else μ 1322 j := fun k j => by
            unfold zmk1
            rw [if_neg (show ¬ w < 2 by omega), if_neg (show ¬ w < 4 by omega), if_neg n4, if_neg g6, if_pos le]
          refine ⟨by omega, st _ _ (fun j => ?_) (n3.up ?_)⟩
          · rw [z, z, zput (V := fun j => if w = 7 then zand 31 (zxor (zshl 1 (j - (100 + 10 * P))) (-1)) else 0)]
            dsimp only
            rw [show 100 + 10 * P + (i : Int) - (100 + 10 * P) = i by omega]
          · have := bz (zxor (zshl 1 i) (-1))
            split <;> omega
        · have ea : zw (zw (zw (100 + zw (10 * P)) + (if w ≤ 8 then (0 : Int) else 5)) + i) = 105 + 10 * P + i := by
            rw [if_neg le, zw_of (x := 10 * P) (by omega) (by omega), zw_of (x := 100 + 10 * P) (by omega) (by omega), zw_of (x := 100 + 10 * P + 5) (by omega) (by omega), zw_of (by omega) (by omega)]; omega
          have ev : (if ¬ zremi w 2 = 1 then (0 : Int) else zand 31 (zxor (zshl 1 i) (-1))) = if w = 9 then zand 31 (zxor (zshl 1 i) (-1)) else 0 := by
            have : w = 9 ∨ w = 10 := by omega
            rcases this with rfl | rfl
            · rw [if_neg (by decide), if_pos rfl]
            · rw [if_pos (by decide), if_neg (by decide)]
          rw [ea, ev]
          have z : ∀ (k : Nat) (j : Int), zmk1 (μ 1322) P w k j = if 105 + 10 * P ≤ j ∧ j < 105 + 10 * P + k then (fun j => if w = 9 then zand 31 (zxor (zshl 1 (j - (105 + 10 * P))) (-1)) else 0) j else μ 1322 j := fun k j => by
            unfold zmk1
            rw [if_neg (show ¬ w < 2 by omega), if_neg (show ¬ w < 4 by omega), if_neg n4, if_neg g6, if_neg le]
          refine ⟨by omega, st _ _ (fun j => ?_) (n3.up ?_)⟩
          · rw [z, z, zput (V := fun j => if w = 9 then zand 31 (zxor (zshl 1 (j - (105 + 10 * P))) (-1)) else 0)]
            dsimp only
            rw [show 105 + 10 * P + (i : Int) - (105 + 10 * P) = i by omega]
          · have := bz (zxor (zshl 1 i) (-1))
            split <;> omega
      · have ea : zw (zw (40 + zw (10 * P)) + zw (2 * (i : Int))) = 40 + 10 * P + 2 * i := by
          rw [zw_of (x := 10 * P) (by omega) (by omega), zw_of (x := 40 + 10 * P) (by omega) (by omega), zw_of (x := 2 * (i : Int)) (by omega) (by omega), zw_of (by omega) (by omega)]
        rw [ea]
        refine ⟨by omega, st _ _ (fun j => ?_) (n3.up ?_)⟩
        · have z : ∀ k : Nat, zmk1 (μ 1322) P w k j = if 40 + 10 * P ≤ j ∧ j < 40 + 10 * P + 2 * k ∧ j % 2 = 0 then 0 else μ 1322 j := fun k => by
            unfold zmk1
            rw [if_neg (show ¬ w < 2 by omega), if_neg (show ¬ w < 4 by omega), if_pos e4]
          rw [z, z]
          by_cases c : j = 40 + 10 * P + 2 * i
          · rw [if_pos c, if_pos (show 40 + 10 * P ≤ j ∧ j < 40 + 10 * P + 2 * ((i + 1 : Nat) : Int) ∧ j % 2 = 0 by omega)]
          · rw [if_neg c]
            by_cases c2 : 40 + 10 * P ≤ j ∧ j < 40 + 10 * P + 2 * i ∧ j % 2 = 0
            · rw [if_pos c2, if_pos (show 40 + 10 * P ≤ j ∧ j < 40 + 10 * P + 2 * ((i + 1 : Nat) : Int) ∧ j % 2 = 0 by omega)]
            · rw [if_neg c2, if_neg (show ¬ (40 + 10 * P ≤ j ∧ j < 40 + 10 * P + 2 * ((i + 1 : Nat) : Int) ∧ j % 2 = 0) by omega)]
        · refine Or.inr (Or.inr (Or.inl ⟨by omega, by omega, by omega, ?_⟩))
          rw [if_pos (by omega)]; omega
      · have ea : zw (zw (160 + zw (5 * P)) + (i : Int)) = 160 + 5 * P + i := by
          rw [zw_of (x := 5 * P) (by omega) (by omega), zw_of (x := 160 + 5 * P) (by omega) (by omega), zw_of (by omega) (by omega)]
        have ev : (if ¬ w = 2 then (-1 : Int) else 0) = if w = 2 then 0 else -1 := by by_cases q : w = 2 <;> simp [q]
        rw [ea, ev]
        refine ⟨by omega, st _ _ (fun j => ?_) (n3.up (by split <;> omega))⟩
        have z : ∀ k : Nat, zmk1 (μ 1322) P w k j = if 160 + 5 * P ≤ j ∧ j < 160 + 5 * P + k then (fun _ => if w = 2 then (0 : Int) else -1) j else μ 1322 j := fun k => by
          unfold zmk1
          rw [if_neg (show ¬ w < 2 by omega), if_pos (show w < 4 by omega)]
        rw [z, z, zput (V := fun _ => if w = 2 then (0 : Int) else -1)]
      · have ev : (if ¬ w = 0 then (0 : Int) else zand 31 (zxor (zshl 1 i) (-1))) = if w = 0 then zand 31 (zxor (zshl 1 i) (-1)) else 0 := by by_cases q : w = 0 <;> simp [q]
        rw [zw_of (x := 190 + (i : Int)) (by omega) (by omega), ev]
        refine ⟨by omega, st _ _ (fun j => ?_) (n3.up ?_)⟩
        · have z : ∀ (k : Nat) (j : Int), zmk1 (μ 1322) P w k j = if 190 ≤ j ∧ j < 190 + k then (fun j => if w = 0 then zand 31 (zxor (zshl 1 (j - 190)) (-1)) else 0) j else μ 1322 j := fun k j => by
            unfold zmk1
            rw [if_pos (show w < 2 by omega)]
          rw [z, z, zput (V := fun j => if w = 0 then zand 31 (zxor (zshl 1 (j - 190)) (-1)) else 0)]
          dsimp only
          rw [show 190 + (i : Int) - 190 = i by omega]
        · have := bz (zxor (zshl 1 i) (-1))
          split <;> omega
  refine c_M_makeSo (l2 5 0 rfl μ (fun _ _ => rfl) ?_ hR)
  funext j
  unfold zmk1
  repeat' split
  all_goals first | rfl | omega
end

/-! Room.become -/
def zpl (c s : Int) : Prop := (c - 22) % 6 = 0 ∧ s = 0 ∨ (c - 22) % 6 ≠ 0 ∧ 0 ≤ s ∧ s < 5
theorem zla_grp : ∀ i, i < 480 → (zla i).1 < 58 → ((decide ((zla i).1 = 0) && (decide ((zla i).2 = 0) || decide ((zla i).2 = 4) || decide ((zla i).2 = 7) || decide ((zla i).2 = 9))) || (decide (22 ≤ (zla i).1) && (decide (((zla i).1 - 22) % 6 = 0 ∧ (zla i).2 = 0) || decide (((zla i).1 - 22) % 6 ≠ 0 ∧ (zla i).2 < 5))) || decide (3 ≤ (zla i).1 ∧ (zla i).1 ≤ 6 ∧ (zla i).2 < 5) || decide ((zla i).1 = 7 ∧ (zla i).2 < 12) || decide ((zla i).1 = 9 ∧ i = 212 + (zla i).2 ∧ i < 216) || decide ((zla i).1 = 10 ∧ (zla i).2 = 0) || decide (11 ≤ (zla i).1 ∧ (zla i).1 ≤ 13 ∧ (zla i).2 < 8) || decide ((zla i).1 = 14 ∧ (zla i).2 = 0) || decide (15 ≤ (zla i).1 ∧ (zla i).1 ≤ 17 ∧ (zla i).2 < 40) || decide ((zla i).1 = 18 ∧ (zla i).2 = 0) || decide (19 ≤ (zla i).1 ∧ (zla i).1 ≤ 21 ∧ (zla i).2 < 40)) = true := by decide +kernel
section
variable {X : zX} {l : Launch} {d : Nat} {μ : zM} {a b : Int} {S : Int → Int → Prop} {Q : zM → Prop}
theorem k_Rb34 (hd : 1 ≤ d) (hab : a + 86 ≤ b ∨ b + 86 ≤ a) (k : ∀ ν, zcp (fun c s => S c s ∨ (22 ≤ c ∧ c < 58 ∧ zpl c s)) a b μ ν → zE X true l d 0 0 y_Room_become 63 [some (7, 0, a), some (7, 0, b), some (0, 0, 0)] [] ν (zrn Q)) {ν : zM} (h : zcp S a b μ ν) : zE X true l d 0 0 y_Room_become 34 [some (7, 0, a), some (7, 0, b), some (0, 0, 0)] [] ν (zrn Q) := by
  have st : ∀ m i : Nat, i + m = 6 → ∀ ν, zcp (fun c s => S c s ∨ (22 ≤ c ∧ c < 22 + 6 * i ∧ zpl c s)) a b μ ν → zE X true l d 0 0 y_Room_become 34 [some (7, 0, a), some (7, 0, b), some (0, 0, (i : Int))] [] ν (zrn Q) := by
    intro m
    induction m with
    | zero =>
      intro i hi ν hν
      obtain rfl : i = 6 := by omega
      exact s_Room_become_34 (d1 := 0) (by omega) ⟨fun _ => k ν hν, fun c => absurd (by decide) c⟩
    | succ m ih =>
      intro i hi ν hν
      have hb : (0 : Int) ≤ i ∧ (i : Int) < 6 := by omega
      refine s_Room_become_34 (d1 := 0) (by omega) ⟨fun c => absurd c (by omega), fun _ => ⟨hb, hb, k_Plan_become hab hb.1 hb.2 hν fun ν1 h5 => ?_⟩⟩
      rw [zw_of (by omega) (by omega)]
      refine ih (i + 1) (by omega) _ (h5.sub fun c s q => ?_)
      rcases q with q | ⟨q1, q2, q3⟩
      · exact Or.inl (Or.inl q)
      · by_cases e : c < 22 + 6 * i
        · exact Or.inl (Or.inr ⟨q1, e, q3⟩)
        · unfold zpl at q3
          refine Or.inr ?_
          omega
  exact st 6 0 rfl ν (h.sub fun c s q => q.resolve_right (by omega))
theorem k_Rb63 (hab : a + 86 ≤ b ∨ b + 86 ≤ a) (k : ∀ ν, zcp (fun c s => S c s ∨ (3 ≤ c ∧ c ≤ 6 ∧ 0 ≤ s ∧ s < 5)) a b μ ν → zE X true l d 0 0 y_Room_become 136 [some (7, 0, a), some (7, 0, b), some (0, 0, 0)] [] ν (zrn Q)) {ν : zM} (h : zcp S a b μ ν) : zE X true l d 0 0 y_Room_become 63 [some (7, 0, a), some (7, 0, b), some (0, 0, 0)] [] ν (zrn Q) := by
  have st : ∀ m i : Nat, i + m = 5 → ∀ ν, zcp (fun c s => S c s ∨ (3 ≤ c ∧ c ≤ 6 ∧ 0 ≤ s ∧ s < i)) a b μ ν → zE X true l d 0 0 y_Room_become 63 [some (7, 0, a), some (7, 0, b), some (0, 0, (i : Int))] [] ν (zrn Q) := by
    intro m
    induction m with
    | zero =>
      intro i hi ν hν
      obtain rfl : i = 5 := by omega
      exact s_Room_become_63 ⟨fun _ => k ν hν, fun c => absurd (by decide) c⟩
    | succ m ih =>
      intro i hi ν hν
      have hb : (0 : Int) ≤ i ∧ (i : Int) < 5 := by omega
      refine s_Room_become_63 ⟨fun c => absurd c (by omega), fun _ => ⟨hb, hb, hb, hb, hb, hb, hb, hb, ?_⟩⟩
      rw [zw_of (by omega) (by omega)]
      refine ih (i + 1) (by omega) _ (((((hν.up hab (c := 3) (by omega) (by omega) (by omega) (by omega) (by omega)).up hab (c := 4) (by omega) (by omega) (by omega) (by omega) (by omega)).up hab (c := 5) (by omega) (by omega) (by omega) (by omega) (by omega)).up hab (c := 6) (by omega) (by omega) (by omega) (by omega) (by omega)).sub fun c s q => ?_)
      by_cases hS : S c s
      · simp only [hS, true_or]
      · simp only [hS, false_or] at q ⊢
        omega
  exact st 5 0 rfl ν (h.sub fun c s q => q.resolve_right (by omega))
theorem k_Rb136 (hab : a + 86 ≤ b ∨ b + 86 ≤ a) (k : ∀ ν, zcp (fun c s => S c s ∨ (c = 7 ∧ 0 ≤ s ∧ s < 12)) a b μ ν → zE X true l d 0 0 y_Room_become 162 [some (7, 0, a), some (7, 0, b), some (0, 0, 0)] [] ν (zrn Q)) {ν : zM} (h : zcp S a b μ ν) : zE X true l d 0 0 y_Room_become 136 [some (7, 0, a), some (7, 0, b), some (0, 0, 0)] [] ν (zrn Q) := by
  have st : ∀ m i : Nat, i + m = 12 → ∀ ν, zcp (fun c s => S c s ∨ (c = 7 ∧ 0 ≤ s ∧ s < i)) a b μ ν → zE X true l d 0 0 y_Room_become 136 [some (7, 0, a), some (7, 0, b), some (0, 0, (i : Int))] [] ν (zrn Q) := by
    intro m
    induction m with
    | zero =>
      intro i hi ν hν
      obtain rfl : i = 12 := by omega
      exact s_Room_become_136 ⟨fun _ => k ν hν, fun c => absurd (by decide) c⟩
    | succ m ih =>
      intro i hi ν hν
      have hb : (0 : Int) ≤ i ∧ (i : Int) < 12 := by omega
      refine s_Room_become_136 ⟨fun c => absurd c (by omega), fun _ => ⟨hb, hb, ?_⟩⟩
      rw [zw_of (by omega) (by omega)]
      refine ih (i + 1) (by omega) _ ((hν.up hab (c := 7) (by omega) (by omega) (by omega) rfl rfl).sub fun c s q => ?_)
      by_cases hS : S c s
      · simp only [hS, true_or]
      · simp only [hS, false_or] at q ⊢
        omega
  exact st 12 0 rfl ν (h.sub fun c s q => q.resolve_right (by omega))
def zsLs (μ : zM) (b i c s : Int) : Prop := (c = 9 ∧ 0 ≤ s ∧ s < i) ∨ ∃ n : Int, 0 ≤ n ∧ n < i ∧ zsL n (μ (b + 58 + 7 * n) 0) (μ (b + 58 + 7 * n) 5) c s
theorem k_Rb162 {M : Nat} (hd : 1 ≤ d) (hab : a + 86 ≤ b ∨ b + 86 ≤ a) (hM : M ≤ 4) (hS : ∀ ν, zcp S a b μ ν → ν a 7 = M) (hB : ∀ n : Int, 0 ≤ n → n < M → 0 ≤ μ (b + 58 + 7 * n) 0 ∧ μ (b + 58 + 7 * n) 0 ≤ 12 ∧ 0 ≤ μ (b + 58 + 7 * n) 5 ∧ μ (b + 58 + 7 * n) 5 ≤ 400 ∧ ∀ c : Int, 0 ≤ c → c < μ (b + 58 + 7 * n) 0 → μ (b + 58 + 7 * n + 1) c = 0 ∨ μ (b + 58 + 7 * n + 1) c = 1) (k : ∀ ν, zcp (fun c s => S c s ∨ zsLs μ b M c s) a b μ ν → zE X true l d 0 0 y_Room_become 208 [some (7, 0, a), some (7, 0, b), none] [] ν (zrn Q)) {ν : zM} (h : zcp S a b μ ν) : zE X true l d 0 0 y_Room_become 162 [some (7, 0, a), some (7, 0, b), some (0, 0, 0)] [] ν (zrn Q) := by
  have st : ∀ m i : Nat, i + m = M → ∀ ν, zcp (fun c s => S c s ∨ zsLs μ b i c s) a b μ ν → zE X true l d 0 0 y_Room_become 162 [some (7, 0, a), some (7, 0, b), some (0, 0, (i : Int))] [] ν (zrn Q) := by
    intro m
    induction m with
    | zero =>
      intro i hi ν hν
      obtain rfl : i = M := by omega
      have e1 := hS ν (hν.sub fun c s q => Or.inl q)
      exact s_Room_become_162 (d1 := 0) (by omega) ⟨fun _ => k ν hν, fun c => absurd (by omega) c⟩
    | succ m ih =>
      intro i hi ν hν
      have e1 := hS ν (hν.sub fun c s q => Or.inl q)
      have hb : (0 : Int) ≤ i ∧ (i : Int) < 4 := by omega
      obtain ⟨b0, b1, b2, b3, b4⟩ := hB i (by omega) (by omega)
      refine s_Room_become_162 (d1 := 0) (by omega) ⟨fun c => absurd c (by omega), fun _ => ⟨fun c => absurd c (by omega), fun _ => ⟨hb, hb, k_Law_become hab hb.1 hb.2 b0 b1 b2 b3 b4 hν fun ν1 h5 => ⟨hb, hb, ?_⟩⟩⟩⟩
      rw [zw_of (by omega) (by omega)]
      refine ih (i + 1) (by omega) _ ((h5.up hab (c := 9) (by omega) (by omega) (by omega) rfl rfl).sub fun c s q => ?_)
      rcases q with q | q | ⟨n, n0, n1, q⟩
      · exact Or.inl (Or.inl (Or.inl q))
      · by_cases e : s = i
        · exact Or.inr ⟨q.1, e⟩
        · exact Or.inl (Or.inl (Or.inr (Or.inl (by omega))))
      · by_cases z : n = i
        · subst z
          exact Or.inl (Or.inr q)
        · exact Or.inl (Or.inl (Or.inr (Or.inr ⟨n, n0, by omega, q⟩)))
  refine st M 0 (by omega) ν (h.sub fun c s q => ?_)
  rcases q with q | q | ⟨n, n0, n1, q⟩
  · exact q
  · omega
  · omega
theorem k_Room_become {LR : zM → Int → (Int → Int) → Prop} {ρ : Int → Int} (hL : zLRok LR) (hd : 1 ≤ d) (hab : a + 86 ≤ b ∨ b + 86 ≤ a) (h : zRoom LR μ b ρ) (hs : μ (a + 10) 1 = 8 ∧ μ (a + 14) 1 = 40 ∧ μ (a + 18) 1 = 40)
    (hQ : ∀ ν, (∀ c : Int, ¬ (a ≤ c ∧ c < a + 86) → ν c = μ c) → zRoom LR ν a ρ → Q ν) : zCv X true l d 0 0 y_Room_become [(7, 0, a), (7, 0, b)] μ Q := by
  obtain ⟨h1, h2, h3, h4⟩ := h
  have r3 := h2.2.2.2.1
  have e7 : μ b 7 = ρ 3 := by
    have := h1 3 (show (zla 3).1 < 58 by decide) (zU_free (by decide))
    simpa [zla] using this
  obtain ⟨M, hM⟩ : ∃ M : Nat, ρ 3 = M := ⟨(ρ 3).toNat, by omega⟩
  have z0 : zcp (fun _ _ => False) a b μ μ := ⟨fun _ _ => rfl, fun _ _ _ _ h => h.elim, hs⟩
  refine c_Room_become (k_Rb34 (S := fun c s => c = 0 ∧ (s = 0 ∨ s = 4 ∨ s = 7 ∨ s = 9)) hd hab (fun ν1 z1 => k_Rb63 hab (fun ν2 z2 => k_Rb136 hab (fun ν3 z3 => k_Rb162 (M := M) hd hab (by omega) (fun ν hν => ?_) (fun n n0 n1 => hL.2.2.1 _ _ _ (h3 n n0 (by omega))) (fun ν4 z4 => s_Room_become_208 (d1 := 0) (by omega) (k_Rows_become hab (by omega) h4.1 z4 fun ν5 z5 => k_Rows_become hab (by omega) h4.2.1 z5 fun ν6 z6 => k_Rows_become hab (by omega) h4.2.2 z6 fun ν7 z7 => ?_)) z3) z2) z1) ?_)
  · have := hν.2.1 0 7 (by decide) (by decide) (Or.inl (Or.inl (Or.inl ⟨rfl, by omega⟩)))
    rw [Int.add_zero, Int.add_zero] at this
    omega
  · refine hQ ν7 z7.1 ⟨fun i hi hu => ?_, h2, fun n n0 n1 => ?_, z7.2.2⟩
    · have hlt := zvl_lt hi
      have t1 := zla_grp i hlt hi
      have hi2 := hi
      unfold zvl at hi2
      simp only [Bool.or_eq_true, Bool.and_eq_true, decide_eq_true_eq] at t1
      rw [z7.2.1 _ _ (by omega) (by omega) ?_]
      · exact h1 i hi hu
      · have u1 := hu.1
        rcases t1 with (((((((((t | t) | t) | t) | t) | t) | t) | t) | t) | t) | t
        · exact Or.inl (Or.inl (Or.inl (Or.inl (Or.inl (Or.inl (Or.inl (by omega)))))))
        · exact Or.inl (Or.inl (Or.inl (Or.inl (Or.inl (Or.inl (Or.inr ⟨by omega, by omega, by unfold zpl; omega⟩))))))
        · exact Or.inl (Or.inl (Or.inl (Or.inl (Or.inl (Or.inr (by omega))))))
        · exact Or.inl (Or.inl (Or.inl (Or.inl (Or.inr (by omega)))))
        · exact Or.inl (Or.inl (Or.inl (Or.inr (Or.inl (by omega)))))
        · exact Or.inl (Or.inl (Or.inr (Or.inl (by omega))))
        · exact Or.inl (Or.inl (Or.inr (Or.inr (by omega))))
        · exact Or.inl (Or.inr (Or.inl (by omega)))
        · exact Or.inl (Or.inr (Or.inr (by omega)))
        · exact Or.inr (Or.inl (by omega))
        · exact Or.inr (Or.inr (by omega))
    · have hb := h3 n n0 n1
      have e0 : ∀ c s : Int, zsL n (μ (b + 58 + 7 * n) 0) (μ (b + 58 + 7 * n) 5) c s → 0 ≤ c → c < 86 → ν7 (a + c) s = μ (b + c) s := fun c s q q0 q1 => z7.2.1 c s q0 q1 (Or.inl (Or.inl (Or.inl (Or.inr (Or.inr ⟨n, n0, by omega, q⟩)))))
      have ea : a + 58 + 7 * n = a + (58 + 7 * n) := by omega
      have eb : b + 58 + 7 * n = b + (58 + 7 * n) := by omega
      refine hL.2.2.2 μ ν7 (b + 58 + 7 * n) (a + 58 + 7 * n) _ ?_ ?_ (fun k c k1 k2 c0 c1 => ?_) (fun k c k1 k2 c0 c1 => ?_) hb
      · have := e0 (58 + 7 * n) 0 (Or.inl ⟨rfl, Or.inl rfl⟩) (by omega) (by omega)
        rw [ea, eb]; exact this
      · have := e0 (58 + 7 * n) 5 (Or.inl ⟨rfl, Or.inr rfl⟩) (by omega) (by omega)
        rw [ea, eb]; exact this
      · have := e0 (58 + 7 * n + k) c (Or.inr (Or.inl ⟨by omega, by omega, c0, c1⟩)) (by omega) (by omega)
        rw [show a + 58 + 7 * n + k = a + (58 + 7 * n + k) by omega, show b + 58 + 7 * n + k = b + (58 + 7 * n + k) by omega]
        exact this
      · have := e0 (58 + 7 * n + k) c (Or.inr (Or.inr ⟨by omega, by omega, c0, c1⟩)) (by omega) (by omega)
        rw [show a + 58 + 7 * n + k = a + (58 + 7 * n + k) by omega, show b + 58 + 7 * n + k = b + (58 + 7 * n + k) by omega]
        exact this
  · refine ((((z0.up hab (c := 0) (s := 0) (by omega) (by omega) (by omega) (by omega) (by omega)).up hab (c := 0) (s := 4) (by omega) (by omega) (by omega) (by omega) (by omega)).up hab (c := 0) (s := 7) (by omega) (by omega) (by omega) (by omega) (by omega)).up hab (c := 0) (s := 9) (by omega) (by omega) (by omega) (by omega) (by omega)).sub (fun c s q => ?_)
    omega
end

/-! copies of rooms -/
/-- ν is μ with the places S of the room at b copied to the room at a -/
def zcp (S : Int → Int → Prop) (a b : Int) (μ ν : zM) : Prop := (∀ c : Int, ¬ (a ≤ c ∧ c < a + 86) → ν c = μ c) ∧ (∀ c s : Int, 0 ≤ c → c < 86 → S c s → ν (a + c) s = μ (b + c) s) ∧ (ν (a + 10) 1 = 8 ∧ ν (a + 14) 1 = 40 ∧ ν (a + 18) 1 = 40)
theorem zcp.up {S : Int → Int → Prop} {a b : Int} {μ ν : zM} (hab : a + 86 ≤ b ∨ b + 86 ≤ a) (h : zcp S a b μ ν) {c s p q : Int} (h0 : 0 ≤ c) (h1 : c < 86) (hs : s = 1 → c ≠ 10 ∧ c ≠ 14 ∧ c ≠ 18) (hp : p = a + c) (hq : q = b + c) : zcp (fun c' s' => S c' s' ∨ (c' = c ∧ s' = s)) a b μ (zup ν p s (ν q s)) := by
  subst hp hq
  obtain ⟨k1, k2, k3, k4, k5⟩ := h
  refine ⟨fun c' hc => ?_, fun c' s' q0 q1 hS => ?_, ?_, ?_, ?_⟩
  · rw [zup_ne (by omega)]
    exact k1 c' hc
  · by_cases e : c' = c ∧ s' = s
    · obtain ⟨rfl, rfl⟩ := e
      rw [zup_hit, k1 _ (by omega)]
    · rw [zup_miss (by omega)]
      exact k2 c' s' q0 q1 (hS.resolve_right e)
  · rw [zup_miss (by omega)]; exact k3
  · rw [zup_miss (by omega)]; exact k4
  · rw [zup_miss (by omega)]; exact k5
theorem zcp.sub {S T : Int → Int → Prop} {a b : Int} {μ ν : zM} (h : zcp S a b μ ν) (hT : ∀ c s, T c s → S c s) : zcp T a b μ ν := ⟨h.1, fun c s q0 q1 q => h.2.1 c s q0 q1 (hT c s q), h.2.2⟩
section
variable {X : zX} {l : Launch} {d : Nat} {μ : zM} {a b : Int} {S : Int → Int → Prop}
theorem k_Plan_become {ν : zM} {p : Int} {Q : zM → Prop} (hab : a + 86 ≤ b ∨ b + 86 ≤ a) (p0 : 0 ≤ p) (p1 : p < 6) (h : zcp S a b μ ν)
    (hQ : ∀ ν', zcp (fun c s => S c s ∨ (c = 22 + 6 * p ∧ s = 0) ∨ (23 + 6 * p ≤ c ∧ c ≤ 27 + 6 * p ∧ 0 ≤ s ∧ s < 5)) a b μ ν' → Q ν') : zCv X true l d 0 0 y_Plan_become [(4, 0, a + 1 + 21 + 6 * p), (4, 0, b + 1 + 21 + 6 * p)] ν Q := by
  have loop : ∀ m i : Nat, i + m = 5 → ∀ ν, zcp (fun c s => S c s ∨ (c = 22 + 6 * p ∧ s = 0) ∨ (23 + 6 * p ≤ c ∧ c ≤ 27 + 6 * p ∧ 0 ≤ s ∧ s < i)) a b μ ν → zE X true l d 0 0 y_Plan_become 10 [some (4, 0, a + 1 + 21 + 6 * p), some (4, 0, b + 1 + 21 + 6 * p), some (0, 0, (i : Int))] [] ν (zrn Q) := by
    intro m
    induction m with
    | zero =>
      intro i hi ν hν
      obtain rfl : i = 5 := by omega
      exact s_Plan_become_10 ⟨fun _ => hQ ν hν, fun c => absurd (by decide) c⟩
    | succ m ih =>
      intro i hi ν hν
      have hb : (0 : Int) ≤ i ∧ (i : Int) < 5 := by omega
      refine s_Plan_become_10 ⟨fun c => absurd c (by omega), fun _ => ⟨hb, hb, hb, hb, hb, hb, hb, hb, hb, hb, ?_⟩⟩
      rw [zw_of (by omega) (by omega)]
      refine ih (i + 1) (by omega) _ ?_
      refine (((((hν.up hab (c := 23 + 6 * p) (by omega) (by omega) (by omega) (by omega) (by omega)).up hab (c := 24 + 6 * p) (by omega) (by omega) (by omega) (by omega) (by omega)).up hab (c := 25 + 6 * p) (by omega) (by omega) (by omega) (by omega) (by omega)).up hab (c := 26 + 6 * p) (by omega) (by omega) (by omega) (by omega) (by omega)).up hab (c := 27 + 6 * p) (by omega) (by omega) (by omega) (by omega) (by omega)).sub (fun c s h => ?_)
      by_cases hS : S c s
      · simp only [hS, true_or]
      · simp only [hS, false_or] at h ⊢
        omega
  refine c_Plan_become (loop 5 0 rfl _ ((h.up hab (c := 22 + 6 * p) (s := 0) (by omega) (by omega) (by omega) (by omega) (by omega)).sub (fun c s h => ?_)))
  by_cases hS : S c s
  · simp only [hS, true_or]
  · simp only [hS, false_or] at h ⊢
    omega
theorem k_Rows_become {ν : zM} {L : Nat} {o : Int} {Q : zM → Prop} (hab : a + 86 ≤ b ∨ b + 86 ≤ a) (ho : o = 10 ∧ L = 8 ∨ o = 14 ∧ L = 40 ∨ o = 18 ∧ L = 40) (hs : μ (b + o) 1 = L) (h : zcp S a b μ ν)
    (hQ : ∀ ν', zcp (fun c s => S c s ∨ (c = o ∧ s = 0) ∨ (o + 1 ≤ c ∧ c ≤ o + 3 ∧ 0 ≤ s ∧ s < L)) a b μ ν' → Q ν') : zCv X true l d 0 0 y_Rows_become [(8, L, a + o), (8, L, b + o)] ν Q := by
  have loop : ∀ m i : Nat, i + m = L → ∀ ν, zcp (fun c s => S c s ∨ (c = o ∧ s = 0) ∨ (o + 1 ≤ c ∧ c ≤ o + 3 ∧ 0 ≤ s ∧ s < i)) a b μ ν → zE X true l d 0 0 y_Rows_become 10 [some (8, L, a + o), some (8, L, b + o), some (0, 0, (i : Int))] [] ν (zrn Q) := by
    intro m
    induction m with
    | zero =>
      intro i hi ν hν
      obtain rfl : i = L := by omega
      have e1 : ν (a + o) 1 = i := by
        obtain ⟨_, _, k1, k2, k3⟩ := hν
        rcases ho with ⟨rfl, rfl⟩ | ⟨rfl, rfl⟩ | ⟨rfl, rfl⟩ <;> assumption
      exact s_Rows_become_10 ⟨fun _ => hQ ν hν, fun c => absurd (by omega) c⟩
    | succ m ih =>
      intro i hi ν hν
      have hb : (0 : Int) ≤ i ∧ (i : Int) < (L : Int) := by omega
      have e1 : ν (a + o) 1 = L := by
        obtain ⟨_, _, k1, k2, k3⟩ := hν
        rcases ho with ⟨rfl, rfl⟩ | ⟨rfl, rfl⟩ | ⟨rfl, rfl⟩ <;> assumption
      have e2 : ν (b + o) 1 = L := by
        rw [hν.1 _ (by omega)]
        exact hs
      refine s_Rows_become_10 ⟨fun c => absurd c (by omega), fun _ => ⟨fun c => absurd c (by omega), fun _ => ⟨hb, hb, hb, hb, hb, hb, ?_⟩⟩⟩
      rw [zw_of (by omega) (by omega)]
      refine ih (i + 1) (by omega) _ ?_
      refine (((hν.up hab (c := o + 1) (by omega) (by omega) (by omega) (by omega) (by omega)).up hab (c := o + 2) (by omega) (by omega) (by omega) (by omega) (by omega)).up hab (c := o + 3) (by omega) (by omega) (by omega) (by omega) (by omega)).sub (fun c s h => ?_)
      by_cases hS : S c s
      · simp only [hS, true_or]
      · simp only [hS, false_or] at h ⊢
        omega
  refine c_Rows_become (loop L 0 (by omega) _ ((h.up hab (c := o) (s := 0) (by omega) (by omega) (by omega) (by omega) (by omega)).sub (fun c s h => ?_)))
  by_cases hS : S c s
  · simp only [hS, true_or]
  · simp only [hS, false_or] at h ⊢
    omega
/-- what of a law is copied -/
def zsL (n m0 m5 c s : Int) : Prop := (c = 58 + 7 * n ∧ (s = 0 ∨ s = 5)) ∨ (59 + 7 * n ≤ c ∧ c ≤ 62 + 7 * n ∧ 0 ≤ s ∧ s < m0) ∨ (63 + 7 * n ≤ c ∧ c ≤ 64 + 7 * n ∧ 0 ≤ s ∧ s < m5)
theorem k_Law_become {ν : zM} {n : Int} {Q : zM → Prop} (hab : a + 86 ≤ b ∨ b + 86 ≤ a) (p0 : 0 ≤ n) (p1 : n < 4) (m0 : 0 ≤ μ (b + 58 + 7 * n) 0) (m1 : μ (b + 58 + 7 * n) 0 ≤ 12) (m2 : 0 ≤ μ (b + 58 + 7 * n) 5) (m3 : μ (b + 58 + 7 * n) 5 ≤ 400) (m4 : ∀ c : Int, 0 ≤ c → c < μ (b + 58 + 7 * n) 0 → μ (b + 58 + 7 * n + 1) c = 0 ∨ μ (b + 58 + 7 * n + 1) c = 1) (h : zcp S a b μ ν)
    (hQ : ∀ ν', zcp (fun c s => S c s ∨ zsL n (μ (b + 58 + 7 * n) 0) (μ (b + 58 + 7 * n) 5) c s) a b μ ν' → Q ν') : zCv X true l d 0 0 y_Law_become [(3, 0, a + 8 + 50 + 7 * n), (3, 0, b + 8 + 50 + 7 * n)] ν Q := by
  obtain ⟨M, hM⟩ : ∃ M : Nat, μ (b + 58 + 7 * n) 0 = M := ⟨(μ (b + 58 + 7 * n) 0).toNat, by omega⟩
  obtain ⟨N, hN⟩ : ∃ N : Nat, μ (b + 58 + 7 * n) 5 = N := ⟨(μ (b + 58 + 7 * n) 5).toNat, by omega⟩
  rw [hM, hN] at hQ
  have bM : (M : Int) ≤ 12 := by omega
  have bN : (N : Int) ≤ 400 := by omega
  have ea : a + 8 + 50 + 7 * n = a + (58 + 7 * n) := by omega
  have eb : b + 8 + 50 + 7 * n = b + (58 + 7 * n) := by omega
  have eb' : b + 58 + 7 * n = b + (58 + 7 * n) := by omega
  rw [eb'] at hM hN m4
  rw [ea, eb]
  rw [hM] at m4
  have loop2 : ∀ m i : Nat, i + m = N → ∀ ν, zcp (fun c s => S c s ∨ zsL n M i c s) a b μ ν → zE X true l d 0 0 y_Law_become 88 [some (3, 0, a + (58 + 7 * n)), some (3, 0, b + (58 + 7 * n)), some (0, 0, (i : Int))] [] ν (zrn Q) := by
    intro m
    induction m with
    | zero =>
      intro i hi ν hν
      obtain rfl : i = N := by omega
      have e1 : ν (a + (58 + 7 * n)) 5 = i := (hν.2.1 _ _ (by omega) (by omega) (Or.inr (Or.inl ⟨rfl, Or.inr rfl⟩))).trans hN
      exact s_Law_become_88 ⟨fun _ => hQ ν hν, fun c => absurd (by omega) c⟩
    | succ m ih =>
      intro i hi ν hν
      have e1 : ν (a + (58 + 7 * n)) 5 = N := (hν.2.1 _ _ (by omega) (by omega) (Or.inr (Or.inl ⟨rfl, Or.inr rfl⟩))).trans hN
      have hb : (0 : Int) ≤ i ∧ (i : Int) < 400 := by omega
      refine s_Law_become_88 ⟨fun c => absurd c (by omega), fun _ => ⟨fun c => absurd c (by omega), fun _ => ⟨hb, hb, hb, hb, ?_⟩⟩⟩
      rw [zw_of (by omega) (by omega)]
      refine ih (i + 1) (by omega) _ ?_
      refine ((hν.up hab (c := 63 + 7 * n) (by omega) (by omega) (by omega) (by omega) (by omega)).up hab (c := 64 + 7 * n) (by omega) (by omega) (by omega) (by omega) (by omega)).sub (fun c s h => ?_)
      by_cases hS : S c s
      · simp only [hS, true_or]
      · simp only [hS, false_or] at h ⊢
        unfold zsL at h ⊢
        omega
  have loop : ∀ m i : Nat, i + m = M → ∀ ν, zcp (fun c s => S c s ∨ zsL n i 0 c s) a b μ ν → zE X true l d 0 0 y_Law_become 18 [some (3, 0, a + (58 + 7 * n)), some (3, 0, b + (58 + 7 * n)), some (0, 0, (i : Int))] [] ν (zrn Q) := by
    intro m
    induction m with
    | zero =>
      intro i hi ν hν
      obtain rfl : i = M := by omega
      have e1 : ν (a + (58 + 7 * n)) 0 = i := (hν.2.1 _ _ (by omega) (by omega) (Or.inr (Or.inl ⟨rfl, Or.inl rfl⟩))).trans hM
      exact s_Law_become_18 ⟨fun _ => loop2 N 0 (by omega) ν hν, fun c => absurd (by omega) c⟩
    | succ m ih =>
      intro i hi ν hν
      have e1 : ν (a + (58 + 7 * n)) 0 = M := (hν.2.1 _ _ (by omega) (by omega) (Or.inr (Or.inl ⟨rfl, Or.inl rfl⟩))).trans hM
      have hb : (0 : Int) ≤ i ∧ (i : Int) < 12 := by omega
      have e2 : ν (b + (58 + 7 * n) + 1) i = 0 ∨ ν (b + (58 + 7 * n) + 1) i = 1 := by
        rw [hν.1 _ (by omega)]
        exact m4 i (by omega) (by omega)
      refine s_Law_become_18 ⟨fun c => absurd c (by omega), fun _ => ⟨fun c => absurd c (by omega), fun _ => ⟨hb, e2, hb, hb, hb, hb, hb, hb, hb, ?_⟩⟩⟩
      rw [zw_of (by omega) (by omega)]
      refine ih (i + 1) (by omega) _ ?_
      refine ((((hν.up hab (c := 59 + 7 * n) (by omega) (by omega) (by omega) (by omega) (by omega)).up hab (c := 60 + 7 * n) (by omega) (by omega) (by omega) (by omega) (by omega)).up hab (c := 61 + 7 * n) (by omega) (by omega) (by omega) (by omega) (by omega)).up hab (c := 62 + 7 * n) (by omega) (by omega) (by omega) (by omega) (by omega)).sub (fun c s h => ?_)
      by_cases hS : S c s
      · simp only [hS, true_or]
      · simp only [hS, false_or] at h ⊢
        unfold zsL at h ⊢
        omega
  refine c_Law_become (loop M 0 (by omega) _ (((h.up hab (c := 58 + 7 * n) (s := 0) (by omega) (by omega) (by omega) (by omega) (by omega)).up hab (c := 58 + 7 * n) (s := 5) (by omega) (by omega) (by omega) (by omega) (by omega)).sub (fun c s h => ?_)))
  by_cases hS : S c s
  · simp only [hS, true_or]
  · simp only [hS, false_or] at h ⊢
    unfold zsL at h
    omega
end

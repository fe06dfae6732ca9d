/-! calls that only look: what they may change; reasons, chance -/
section
variable {LR : zM → Int → (Int → Int) → Prop} {μ ν : zM}
theorem zBigs.keep2 {μ ν : zM} (h : zBigs μ) (hk : ∀ b : Int, 121 ≤ b → b < 1320 → ν b = μ b) : zBigs ν := by
  obtain ⟨⟨b1, b2, b3, b4, b5, b6⟩, b7⟩ := h
  have e : ∀ b : Int, 121 ≤ b ∧ b < 1320 → ν b = μ b := fun b hb => hk b hb.1 hb.2
  refine ⟨⟨fun s a b => ⟨(b1 s a b).1.keep (e _ (by omega)) (e _ (by omega)), (b1 s a b).2.keep (e _ (by omega)) (e _ (by omega))⟩, ⟨b2.1.keep (e _ (by decide)) (e _ (by decide)), b2.2.1.keep (e _ (by decide)) (e _ (by decide)), b2.2.2.1.keep (e _ (by decide)) (e _ (by decide)), b2.2.2.2.1.keep (e _ (by decide)) (e _ (by decide)), b2.2.2.2.2.keep (e _ (by decide)) (e _ (by decide))⟩, fun n a b => ⟨(b3 n a b).1.keep (e _ (by omega)) (e _ (by omega)), (b3 n a b).2.1.keep (e _ (by omega)) (e _ (by omega)), (b3 n a b).2.2.1.keep (e _ (by omega)) (e _ (by omega)), (b3 n a b).2.2.2.keep (e _ (by omega)) (e _ (by omega))⟩, b4.keep (e _ (by decide)) (e _ (by decide)), b5.keep (e _ (by decide)) (e _ (by decide)), b6.keep (e _ (by decide)) (e _ (by decide))⟩, fun k hk => ?_⟩
  rw [e _ (by omega), e _ (by omega), e _ (by omega)]
  exact b7 k hk
theorem zInv.calm (hL : zLRok LR) (h : zInv LR μ) (h1 : ∀ b : Int, 0 ≤ b → b < 101 → ν b = μ b) (h2 : ν 103 = μ 103) (h3 : ∀ b : Int, 1148 ≤ b → b < 1320 → ν b = μ b) (h4 : ∀ b : Int, 1321 ≤ b → b ≤ 1325 → ν b = μ b) (h5 : ν 1342 = μ 1342) (h6 : ν 1320 1 = μ 1320 1 ∧ ν 1320 7 = μ 1320 7 ∧ ν 1320 12 = μ 1320 12 ∧ ν 1320 45 = μ 1320 45) (h7 : zBigs ν) : zInv LR ν := by
  obtain ⟨a1, a2, a3, a4, a5, a6, a7, a8, a9⟩ := id h
  have e0 : ν 0 = μ 0 := h1 0 (by decide) (by decide)
  refine h.step hL ⟨by rw [e0], by rw [e0], h6.2.1, h6.2.2.1, h6.2.2.2⟩ (by rw [e0, h6.1]; exact a4) ?_ ⟨h1 89 (by decide) (by decide), h4 1325 (by decide) (by decide), h1 88 (by decide) (by decide), h4 1324 (by decide) (by decide), h4 1323 (by decide) (by decide), h1 100 (by decide) (by decide), h5⟩ h3 ?_ h7
  · rw [h2, h4 1321 (by decide) (by decide)]; exact a5
  · rw [h4 1322 (by decide) (by decide)]
    exact a6.keep hL (fun b b0 b1 => h1 b (by omega) (by omega))
theorem zInv.rb (h : zInv LR μ) : zRB (μ 1322) := h.2.2.2.2.2.1.2.1
theorem zInv.force (h : zInv LR μ) : μ 1 9 = μ 1322 1 ∧ -1 ≤ μ 1322 1 ∧ μ 1322 1 < μ 1322 3 ∧ μ 1322 3 ≤ 4 := by
  have e := h.num 1 (by decide) (a := 0) (s := 9) rfl (by decide)
  have b := h.rb.2.1
  have b3 := h.rb.2.2.2.1
  exact ⟨e, b.1, b.2, b3.2⟩
theorem zInv.nlaws (h : zInv LR μ) : μ 1 7 = μ 1322 3 := h.num 3 (by decide) (a := 0) (s := 7) rfl (by decide)
theorem zInv.long (h : zInv LR μ) : μ 1 4 = μ 1322 2 ∧ 1 ≤ μ 1322 2 ∧ μ 1322 2 ≤ 12 := by
  have e := h.num 2 (by decide) (a := 0) (s := 4) rfl (by decide)
  exact ⟨e, h.rb.2.2.1.1, h.rb.2.2.1.2⟩
theorem zInv.many (h : zInv LR μ) {P : Int} (P0 : 0 ≤ P) (P1 : P < 6) : μ (23 + 6 * P) 0 = μ 1322 (10 + P) ∧ 0 ≤ μ 1322 (10 + P) ∧ μ 1322 (10 + P) ≤ 5 := by
  obtain ⟨n, rfl⟩ : ∃ n : Nat, P = n := ⟨P.toNat, by omega⟩
  have e := h.num (10 + n) (by omega) (zla_p4 n (by omega)) (by omega)
  have b := h.rb.2.2.2.2.2.2.2.1 (10 + n) (by omega) (by omega)
  refine ⟨Eq.trans ?_ (e.trans ?_), b⟩
  · congr 1; omega
  · congr 1
end
section
variable {μ : zM}
theorem zInv.law {x : Int} (h : zInv zLR μ) (hx : x = -1 ∨ (0 ≤ x ∧ x < μ 1322 3)) : ∃ law : Option zLaw, (∀ ν : zM, (∀ b : Int, 0 ≤ b → b < 101 → ν b = μ b) → ν 106 4 = (if x = -1 then -1 else 59 + 7 * x) → zCL ν law) ∧ (∀ ν : zM, ν 1322 = μ 1322 → ν 1320 32 = x → zML ν law) := by
  have r3 := h.rb.2.2.2.1
  by_cases e : x = -1
  · refine ⟨none, fun ν _ n2 => ?_, fun ν _ n2 => ?_⟩
    · rw [if_pos e] at n2
      show ν 106 4 < 0
      omega
    · show ν 1320 32 = -1
      omega
  · obtain ⟨g, wt, ws, h1, h2, h3⟩ := h.2.2.2.2.2.1.2.2.1 x (by omega) (by omega)
    have ea : (1 : Int) + 58 + 7 * x = 59 + 7 * x := by omega
    rw [ea] at h1 h2 h3
    have hb := h1.1
    obtain ⟨n, hn⟩ : ∃ n : Nat, μ (59 + 7 * x) 0 = n := ⟨(μ (59 + 7 * x) 0).toNat, by omega⟩
    rw [hn] at h2 h3
    refine ⟨some (n, g, wt, ws), fun ν n1 n2 => ?_, fun ν n1 n2 => ?_⟩
    · rw [if_neg e] at n2
      unfold zCL
      rw [n2]
      exact ⟨by omega, by omega, by rw [n1 _ (by omega) (by omega)]; exact hn, h1.keep (fun b b0 b1 => n1 b (by omega) (by omega)), h3⟩
    · unfold zML
      rw [n1, n2]
      refine ⟨by omega, by omega, by show n ≤ 12; omega, fun c c0 c1 => ?_, h2, h3⟩
      exact (h1.2 c c0 (by rw [hn]; exact c1)).1.2
end
/-- how many of a law's clauses hold -/
def zholds (g : Int → Int) : Nat → Int
  | 0 => 0
  | n + 1 => zholds g n + (if g n = 0 then 1 else 0)
theorem zholds_bd (g : Int → Int) : ∀ n : Nat, 0 ≤ zholds g n ∧ zholds g n ≤ n
  | 0 => by unfold zholds; decide
  | n + 1 => by
    have := zholds_bd g n
    unfold zholds
    split <;> omega
theorem zholds_congr {g g' : Int → Int} : ∀ n : Nat, (∀ c : Int, 0 ≤ c → c < n → g c = g' c) → zholds g n = zholds g' n
  | 0, _ => rfl
  | n + 1, h => by
    unfold zholds
    rw [zholds_congr n (fun c a b => h c a (by omega)), h n (by omega) (by omega)]
section
variable {X : zX} {l : Launch} {d : Nat} {μ : zM}
theorem k_Law_holds {a : Int} {n : Nat} {Q : Int → zM → Prop} (hn : μ a 0 = n) (n1 : n ≤ 12) (hQ : Q (zholds (μ (a + 1)) n) μ) : zCi X true l d 0 0 y_Law_holds [(3, 0, a)] μ Q := by
  have loop : ∀ m i : Nat, i + m = n → zE X true l d 0 0 y_Law_holds 4 [some (3, 0, a), some (0, 0, zholds (μ (a + 1)) i), some (0, 0, (i : Int))] [] μ (zri Q) := by
    intro m
    induction m with
    | zero =>
      intro i hi
      obtain rfl : i = n := by omega
      exact s_Law_holds_4 ⟨fun _ => hQ, fun c => absurd (by omega) c⟩
    | succ m ih =>
      intro i hi
      have b := zholds_bd (μ (a + 1)) i
      refine s_Law_holds_4 ⟨fun c => absurd c (by omega), fun _ => ⟨fun c => absurd c (by omega), fun _ => ⟨by omega, ?_⟩⟩⟩
      rw [zw_of (x := (i : Int) + 1) (by omega) (by omega), zw_of (by split <;> omega) (by split <;> omega)]
      exact ih (i + 1) (by omega)
  exact c_Law_holds (loop n 0 (by omega))
theorem k_M_reasonsOf {x : Int} {n : Nat} {Q : Int → zM → Prop} (x0 : 0 ≤ x) (x1 : x < 4) (hn : μ 1322 (480 + 900 * x + 1) = n) (n1 : n ≤ 12) {g : Int → Int} (hg : ∀ c : Int, 0 ≤ c → c < n → μ 1322 (480 + 900 * x + (2 + 8 * c)) = 1 - g c ∧ (g c = 0 ∨ g c = 1)) (hQ : Q (zholds g n) μ) : zCi X true l d 0 0 y_M_reasonsOf [(13, 0, 1320), (0, 0, x)] μ Q := by
  have w0 : zw (480 + zw (900 * x)) = 480 + 900 * x := by rw [zw_of (x := 900 * x) (by omega) (by omega), zw_of (by omega) (by omega)]
  have w1 : zw (480 + 900 * x + 1) = 480 + 900 * x + 1 := zw_of (by omega) (by omega)
  have loop : ∀ m i : Nat, i + m = n → zE X true l d 0 0 y_M_reasonsOf 4 [some (13, 0, 1320), some (0, 0, x), some (0, 0, zholds g i), some (0, 0, (i : Int))] [] μ (zri Q) := by
    intro m
    induction m with
    | zero =>
      intro i hi
      obtain rfl : i = n := by omega
      refine s_M_reasonsOf_4 (a0 := 1320) ?_
      simp only [Int.reduceAdd, w0, w1, hn]
      exact ⟨by omega, fun _ => hQ, fun c => absurd (by omega) c⟩
    | succ m ih =>
      intro i hi
      have b := zholds_bd g i
      obtain ⟨e1, e2⟩ := hg i (by omega) (by omega)
      have w2 : zw (zw (480 + 900 * x + 2) + zw (8 * (i : Int))) = 480 + 900 * x + (2 + 8 * i) := by rw [zw_of (x := 480 + 900 * x + 2) (by omega) (by omega), zw_of (x := 8 * (i : Int)) (by omega) (by omega), zw_of (by omega) (by omega)]; omega
      refine s_M_reasonsOf_4 (a0 := 1320) ?_
      simp only [Int.reduceAdd, w0, w1, hn, w2, e1]
      refine ⟨by omega, fun c => absurd c (by omega), fun _ => ⟨by omega, ?_⟩⟩
      have e3 : (if ¬ 1 - g i = 1 then (0 : Int) else 1) = if g i = 0 then 1 else 0 := by
        rcases e2 with e2 | e2 <;> rw [e2] <;> decide
      rw [e3, zw_of (x := (i : Int) + 1) (by omega) (by omega), zw_of (by split <;> omega) (by split <;> omega)]
      exact ih (i + 1) (by omega)
  exact c_M_reasonsOf (loop n 0 (by omega))
/-- a law's clauses on both sides -/
theorem zInv.heads {x : Int} (h : zInv zLR μ) (x0 : 0 ≤ x) (x1 : x < μ 1322 3) : ∃ (n : Nat) (g : Int → Int), n ≤ 12 ∧ μ (59 + 7 * x) 0 = n ∧ μ 1322 (480 + 900 * x + 1) = n ∧ ∀ c : Int, 0 ≤ c → c < n → μ (60 + 7 * x) c = g c ∧ μ 1322 (480 + 900 * x + (2 + 8 * c)) = 1 - g c ∧ (g c = 0 ∨ g c = 1) := by
  obtain ⟨g, wt, ws, h1, h2, h3⟩ := h.2.2.2.2.2.1.2.2.1 x x0 x1
  have ea : (1 : Int) + 58 + 7 * x = 59 + 7 * x := by omega
  rw [ea] at h1 h2
  have hb := h1.1
  obtain ⟨n, hn⟩ : ∃ n : Nat, μ (59 + 7 * x) 0 = n := ⟨(μ (59 + 7 * x) 0).toNat, by omega⟩
  refine ⟨n, g, by omega, hn, by rw [← hn]; exact h2.1, fun c c0 c1 => ?_⟩
  have q := h1.2 c c0 (by omega)
  refine ⟨?_, (h2.2 c c0 (by omega)).1, q.1.2⟩
  have := q.1.1
  rw [show (59 : Int) + 7 * x + 1 = 60 + 7 * x by omega] at this
  exact this
end

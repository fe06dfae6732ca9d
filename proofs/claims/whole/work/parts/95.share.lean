/-! the SCALES: share, loadUnprinted, suppose -/
section
variable {X : zX} {l : Launch} {d : Nat} {μ : zM}
theorem zBv.zero {a v : Int} {L : Nat} (h : zBv μ a L v) : μ a 2 = 0 ↔ v = 0 := by
  have g := h.1
  refine ⟨fun e => ?_, fun e => ?_⟩
  · have := h.used (u := 0) e
    rw [← this]
    rfl
  · refine Decidable.byContradiction fun c => ?_
    obtain ⟨u, hu⟩ : ∃ u : Nat, μ a 2 = (u : Int) + 1 := ⟨(μ a 2 - 1).toNat, by have := g.2.1; omega⟩
    have t := g.2.2.2.2 (by omega)
    rw [hu, show (u : Int) + 1 - 1 = u by omega] at t
    have := znum_top h.1.dig (u := u) (by have := g.2.2.1; omega) t
    have p := zpw_pos u
    rw [h.2] at this
    omega
theorem k_shr98 {all p : Int} {Q : Int → zM → Prop} (hd : 3 ≤ d) (a0 : 0 < all) (ha : all * 1048576 < zpw 170) (hB : zBigs μ) (h1 : zBv μ 1112 170 all) (h2 : zBv μ 1110 170 p) (hQ : ∀ ν, (∀ b : Int, b ≠ 1114 → b ≠ 1115 → ν b = μ b) → zBigs ν → Q (p / all) ν) : ∀ (k : Nat) (lo : Int), 0 ≤ lo → lo + 2 ^ k ≤ 1048576 → lo * all ≤ p → p < (lo + 2 ^ k) * all → ∀ ν : zM, (∀ b : Int, b ≠ 1114 → b ≠ 1115 → ν b = μ b) → zBigs ν → zE X true l d 0 0 y_Scales_share 98 [some (9, 0, 104), none, some (0, 0, lo), some (0, 0, 2 ^ k / 2)] [] ν (zri Q) := by
  intro k
  induction k with
  | zero =>
    intro lo l0 l1 i1 i2 ν n1 n2
    refine s_Scales_share_98 (a0 := 104) (d1 := 2) (by omega) ⟨fun _ => ?_, fun c => absurd (by decide) c⟩
    have : p / all = lo := zdiv_uniq a0 i1 i2
    show Q lo ν
    rw [← this]
    exact hQ ν n1 n2
  | succ k ih =>
    intro lo l0 l1 i1 i2 ν n1 n2
    have e2 : (2 : Int) ^ (k + 1) = 2 ^ k * 2 := Int.pow_succ 2 k
    have p0 : (0 : Int) < 2 ^ k := Int.pow_pos (by decide)
    generalize hm : (2 : Int) ^ k = m at *
    rw [e2] at l1 i2 ⊢
    have em : m * 2 / 2 = m := by omega
    rw [em]
    refine s_Scales_share_98 (a0 := 104) (d1 := 2) (by omega) ⟨fun c => absurd c (by omega), fun _ => ?_⟩
    simp only [Int.reduceAdd]
    refine k_setBig (a := 1114) (a1 := 1112) (L := 170) (by omega) (by omega) n2.1.2.2.2.2.2 (h1.keep (n1 _ (by decide) (by decide)) (n1 _ (by decide) (by decide))) (by omega) (fun ν2 q1 q2 => ?_)
    rw [zw_of (x := lo + m) (by omega) (by omega), zdivi_of (by omega) (by omega) (by decide) (by decide)]
    have lim : all * (lo + m) < zpw 170 := by
      have := Int.mul_le_mul_of_nonneg_left (show lo + m ≤ 1048576 by omega) (Int.le_of_lt a0)
      omega
    refine k_timesSmall (a := 1114) (L := 170) (by omega) (by omega) q2 (by omega) (by omega) lim (fun ν4 r1 r2 => ?_)
    have n4 : ∀ b : Int, b ≠ 1114 → b ≠ 1115 → ν4 b = μ b := fun b b0 b1 => by rw [r1 b b0 (by omega), q1 b b0 (by omega)]; exact n1 b b0 b1
    have B4 : zBigs ν4 := n2.sc (a := 1114) (L := 170) (fun b b0 b1 => (r1 b b0 b1).trans (q1 b b0 b1)) r2.1 (by omega) (by omega)
    refine k_against (a := 1114) (a1 := 1110) (by omega) r2 (h2.keep (n4 _ (by decide) (by decide)) (n4 _ (by decide) (by decide))) ⟨fun z => ?_, fun z => ?_⟩
    · have gt : p < all * (lo + m) := by
        refine Decidable.byContradiction fun c => ?_
        by_cases c2 : all * (lo + m) < p
        · rw [if_pos c2] at z; omega
        · rw [if_neg c2, if_pos (by omega)] at z; omega
      exact ih lo l0 (by omega) i1 (by rw [Int.mul_comm]; exact gt) ν4 n4 B4
    · have le : all * (lo + m) ≤ p := by
        refine Decidable.byContradiction fun c => ?_
        rw [if_neg (by omega), if_neg (by omega)] at z
        omega
      refine ih (lo + m) (by omega) (by omega) (by rw [Int.mul_comm]; exact le) ?_ ν4 n4 B4
      rw [show lo + m + m = lo + m * 2 by omega]
      exact i2
theorem k_share {N n : Nat} {c : Nat → Int} {Q : Int → zM → Prop} (hd : 3 ≤ d) (hB : zBigs μ) (h1 : μ 104 1 = N) (N4 : N ≤ 4) (hn : n < N) (hv : ∀ i : Nat, i < N → zBv μ (1118 + 8 * i) 170 (c i)) (hc : ∀ i : Nat, i < N → c i ≤ 100 ^ 721) (hQ : ∀ ν, (∀ b : Int, ¬ (1110 ≤ b ∧ b ≤ 1115) → ν b = μ b) → zBigs ν → Q (zshr9 (c n) (ztot c N)) ν) : zCi X true l d 0 0 y_Scales_share [(9, 0, 104), (0, 0, (n : Int))] μ Q := by
  have P0 : (0 : Int) < 100 ^ 721 := Int.pow_pos (by decide)
  have cb : ∀ i : Nat, i < N → 0 ≤ c i ∧ c i ≤ 100 ^ 721 := fun i hi => ⟨(hv i hi).bd.1, hc i hi⟩
  have big : (100 : Int) ^ 721 * 4 * 1048576 < zpw 170 := by
    have e1 := zhp2 (n := 690) (by omega)
    have e : zpw 170 = zpw 155 * zpw 15 := by rw [← zpw_add]
    have e3 : (100 : Int) ^ 721 = 100 ^ 690 * 100 ^ 31 := by rw [← Int.pow_add]
    have q := Int.mul_lt_mul_of_pos_right e1 (zpw_pos 15)
    have e4 : (100 : Int) ^ 31 * 4 * 1048576 ≤ zpw 15 := by decide
    have q2 := Int.mul_le_mul_of_nonneg_left e4 (show (0 : Int) ≤ 100 ^ 690 from Int.le_of_lt (Int.pow_pos (by decide)))
    have e5 : (100 : Int) ^ 690 * (100 ^ 31 * 4 * 1048576) = 100 ^ 690 * 100 ^ 31 * 4 * 1048576 := by
      rw [← Int.mul_assoc, ← Int.mul_assoc]
    rw [e3, e]
    omega
  have tb : ∀ k : Nat, k ≤ N → 0 ≤ ztot c k ∧ ztot c k ≤ 100 ^ 721 * 4 := fun k hk => by
    obtain ⟨a, b, _⟩ := ztot_bd k (fun i hi => cb i (by omega))
    have := Int.mul_le_mul_of_nonneg_left (show (k : Int) ≤ 4 by omega) (Int.le_of_lt P0)
    omega
  obtain ⟨tN0, tN1⟩ := tb N (Nat.le_refl _)
  have cn : c n ≤ ztot c N := (ztot_bd N cb).2.2 n hn
  have cb' := cb n hn
  refine c_Scales_share (a0 := 104) (d1 := 2) (by omega) (k_setZero (a := 1112) (L := 170) (by omega) hB.1.2.2.2.2.1 (fun ν1 q1 q2 _ _ => ?_))
  have loop : ∀ k i : Nat, i + k = N → ∀ ν : zM, (∀ b : Int, b ≠ 1112 → b ≠ 1113 → ν b = μ b) → zBv ν 1112 170 (ztot c i) → zE X true l d 0 0 y_Scales_share 9 [some (9, 0, 104), some (0, 0, (n : Int)), some (0, 0, (i : Int)), none] [] ν (zri Q) := by
    intro k
    induction k with
    | zero =>
      intro i hi ν n1 n2
      obtain rfl : i = N := by omega
      have f1 : ν 104 1 = i := by rw [n1 104 (by decide) (by decide)]; exact h1
      have Bν : zBigs ν := hB.sc (a := 1112) (L := 170) n1 n2.1 (by omega) (by omega)
      refine s_Scales_share_9 (a0 := 104) (d1 := 2) (by omega) ⟨fun _ => ?_, fun q => absurd (by omega) q⟩
      refine s_Scales_share_42 (a0 := 104) (d1 := 2) (by omega) ⟨fun z => ?_, fun z => ⟨fun q => absurd q (by omega), fun _ => ⟨fun q => absurd q (by omega), fun _ => ⟨fun _ => ⟨by omega, ?_⟩, fun q => absurd (by omega) q⟩⟩⟩⟩
      · have z0 : ztot c i = 0 := n2.zero.1 z
        have e : zshr9 (c n) (ztot c i) = 0 := by unfold zshr9; rw [if_pos z0]
        show Q 0 ν
        rw [← e]
        exact hQ ν (fun b hb => n1 b (by omega) (by omega)) Bν
      · have z0 : ztot c i ≠ 0 := fun e => z (n2.zero.2 e)
        simp only [Int.reduceAdd]
        refine k_setBig (a := 1110) (a1 := 1118 + 8 * (n : Int)) (L := 170) (by omega) (by omega) Bν.1.2.2.2.1 ((hv n hn).keep (n1 _ (by omega) (by omega)) (n1 _ (by omega) (by omega))) (by omega) (fun ν5 r1 r2 => ?_)
        refine k_timesSmall (a := 1110) (L := 170) (by omega) (by omega) r2 (by omega) (by omega) (by omega) (fun ν7 t1 t2 => ?_)
        have f7 : ∀ b : Int, b ≠ 1110 → b ≠ 1111 → ν7 b = ν b := fun b b0 b1 => (t1 b b0 (by omega)).trans (r1 b b0 (by omega))
        have B7 : zBigs ν7 := Bν.sc (a := 1110) (L := 170) f7 t2.1 (by omega) (by omega)
        refine k_shr98 (μ := ν7) (all := ztot c i) (p := c n * 1000000) hd (by omega) (by omega) B7 (n2.keep (f7 _ (by decide) (by decide)) (f7 _ (by decide) (by decide))) t2 (fun ν9 s1 s2 => ?_) 20 0 (by omega) (by decide) (by omega) ?_ ν7 (fun _ _ _ => rfl) B7
        · have e : zshr9 (c n) (ztot c i) = c n * 1000000 / ztot c i := by unfold zshr9; rw [if_neg z0]
          rw [← e]
          exact hQ ν9 (fun b hb => by rw [s1 b (by omega) (by omega), f7 b (by omega) (by omega)]; exact n1 b (by omega) (by omega)) s2
        · rw [show (0 : Int) + 2 ^ 20 = 1048576 by decide]
          omega
    | succ k ih =>
      intro i hi ν n1 n2
      have f1 : ν 104 1 = N := by rw [n1 104 (by decide) (by decide)]; exact h1
      have ti := tb (i + 1) (by omega)
      have ts : ztot c (i + 1) = ztot c i + c i := rfl
      refine s_Scales_share_9 (a0 := 104) (d1 := 2) (by omega) ⟨fun q => absurd q (by omega), fun _ => ⟨fun q => absurd q (by omega), fun _ => ⟨by omega, ?_⟩⟩⟩
      simp only [Int.reduceAdd]
      refine k_addTimes (a := 1112) (a1 := 1118 + 8 * (i : Int)) (L := 170) (by omega) (by omega) n2 ((hv i (by omega)).keep (n1 _ (by omega) (by omega)) (n1 _ (by omega) (by omega))) (by omega) (by omega) (by omega) (by rw [Int.mul_one]; omega) (fun ν3 r1 r2 => ?_)
      rw [Int.mul_one, ← ts] at r2
      rw [zw_of (by omega) (by omega)]
      exact ih (i + 1) (by omega) ν3 (fun b b0 b1 => (r1 b b0 (by omega)).trans (n1 b b0 b1)) r2
  exact loop N 0 (by omega) ν1 (fun b b0 b1 => q1 b b0 (by omega)) q2
/-- two of the scales' numbers -/
theorem zBigs.two {ν : zM} {a : Int} {L : Nat} (hB : zBigs μ) (hk : ∀ b : Int, b ≠ 1110 → b ≠ 1111 → b ≠ a → b ≠ a + 1 → ν b = μ b) (h : zBig ν 1110 170) (h2 : zBig ν a L) (ha : 1112 ≤ a ∧ a < 1148 ∧ a % 2 = 0) (hL : (1116 ≤ a ∧ 4 ≤ (a - 1116) % 8) ∧ L = 15 ∨ ¬ (1116 ≤ a ∧ 4 ≤ (a - 1116) % 8) ∧ L = 170) : zBigs ν := by
  have hmid : zBigs (fun b => if b = 1110 ∨ b = 1111 then ν b else μ b) := hB.sc (a := 1110) (L := 170) (fun b b0 b1 => if_neg (by omega)) (h.keep (by simp) (by simp)) (by omega) (by omega)
  refine hmid.sc (a := a) (L := L) (fun b b0 b1 => ?_) h2 (by omega) hL
  show ν b = if b = 1110 ∨ b = 1111 then ν b else μ b
  split
  · rfl
  · exact hk b (by omega) (by omega) b0 b1
/-- the four numbers of law i: what is loaded (A), what of it counts (C), going (W) and staying (S) at the plan not printed -/
theorem k_loadUnprinted {N : Nat} {P : Int} {lw : Nat → Option zLaw} {Q : zM → Prop} (hd : 5 ≤ d) (h : zInv zLR μ) (N4 : N ≤ 4) (P0 : 0 ≤ P) (P1 : P < 6) (h1 : μ 104 1 = N) (hl : ∀ i : Nat, i < N → zLk μ i (lw i)) (hQ : ∀ ν, zKp μ ν → ν 104 1 = N → (∀ i : Int, 0 ≤ i → i < 4 → ∀ b : Int, 1116 + 8 * i ≤ b → b < 1120 + 8 * i → ν b = μ b) → (∀ i : Nat, i < N → zBv ν (1120 + 8 * i) 15 (zwhv (μ 1322) P - zstv (μ 1322) P (lw i)) ∧ zBv ν (1122 + 8 * i) 15 (zstv (μ 1322) P (lw i))) → Q ν) : zCv X true l d 0 0 y_Scales_loadUnprinted [(9, 0, 104), (7, 0, 1), (0, 0, P)] μ Q := by
  have trans8 : ∀ {ν : zM} {i : Nat}, zKp μ ν → i < N → zLk ν i (lw i) := fun {ν i} k hi => ⟨fun ν' a b => (hl i hi).1 ν' (fun b b0 b1 => (a b b0 b1).trans (k.1 b (by omega))) b, fun ν' a b => (hl i hi).2 ν' (by rw [a]; exact k.1 _ (by decide)) b⟩
  refine c_Scales_loadUnprinted (a0 := 104) (a1 := 1) ?_
  have loop : ∀ k n : Nat, n + k = N → ∀ ν : zM, zKp μ ν → ν 104 1 = N → (∀ i : Int, 0 ≤ i → i < 4 → ∀ b : Int, 1116 + 8 * i ≤ b → b < 1120 + 8 * i → ν b = μ b) → (∀ i : Nat, i < n → zBv ν (1120 + 8 * i) 15 (zwhv (μ 1322) P - zstv (μ 1322) P (lw i)) ∧ zBv ν (1122 + 8 * i) 15 (zstv (μ 1322) P (lw i))) → zE X true l d 0 0 y_Scales_loadUnprinted 2 [some (9, 0, 104), some (7, 0, 1), some (0, 0, P), some (0, 0, (n : Int))] [] ν (zrn Q) := by
    intro k
    induction k with
    | zero =>
      intro n hn ν kν eN hf hv
      obtain rfl : n = N := by omega
      exact s_Scales_loadUnprinted_2 (a0 := 104) (a1 := 1) (d1 := 4) (by omega) ⟨fun _ => hQ ν kν eN hf hv, fun q => absurd (by omega) q⟩
    | succ k ih =>
      intro n hn ν kν eN hf hv
      refine s_Scales_loadUnprinted_2 (a0 := 104) (a1 := 1) (d1 := 4) (by omega) ⟨fun q => absurd q (by omega), fun _ => ⟨fun q => absurd q (by omega), fun _ => ?_⟩⟩
      simp only [Int.reduceAdd]
      have er : ν 1322 = μ 1322 := kν.1 _ (by decide)
      refine k_lookC (law := lw n) (by omega) (h.cm kν.cm) (trans8 kν (by omega)) (by omega) P0 P1 (fun ν5 q1 q2 q3 q4 => ⟨by omega, ?_⟩)
      rw [er] at q3 q4
      have b5 := q2.1.2.2.1 n (by omega) (by omega)
      refine k_setBig (a := 1120 + 8 * (n : Int)) (a1 := 130) (L := 15) (by omega) (by omega) b5.2.2.1 q4 (by omega) (fun ν7 r1 r2 => ⟨by omega, ?_⟩)
      refine k_setBig (a := 1122 + 8 * (n : Int)) (a1 := 128) (L := 15) (by omega) (by omega) (b5.2.2.2.keep (r1 _ (by omega) (by omega)) (r1 _ (by omega) (by omega))) (q3.keep (r1 _ (by omega) (by omega)) (r1 _ (by omega) (by omega))) (by omega) (fun ν9 s1 s2 => ?_)
      have B7 := q2.sc r1 r2.1 (by omega) (by omega)
      have B9 := B7.sc s1 s2.1 (by omega) (by omega)
      have f : ∀ b : Int, ¬ (105 ≤ b ∧ b ≤ 131) → ¬ (1120 + 8 * (n : Int) ≤ b ∧ b ≤ 1123 + 8 * (n : Int)) → ν9 b = ν b := fun b b0 b1 => by rw [s1 b (by omega) (by omega), r1 b (by omega) (by omega), q1 b b0]
      rw [zw_of (by omega) (by omega)]
      refine ih (n + 1) (by omega) ν9 ⟨fun b hb => (f b (by omega) (by omega)).trans (kν.1 b hb), B9⟩ (by rw [f 104 (by omega) (by omega)]; exact eN) (fun i i0 i1 b b0 b1 => (f b (by omega) (by omega)).trans (hf i i0 i1 b b0 b1)) (fun i hi => ?_)
      by_cases e : i = n
      · rw [e]
        exact ⟨r2.keep (s1 _ (by omega) (by omega)) (s1 _ (by omega) (by omega)), s2⟩
      · have v := hv i (by omega)
        exact ⟨v.1.keep (f _ (by omega) (by omega)) (f _ (by omega) (by omega)), v.2.keep (f _ (by omega) (by omega)) (f _ (by omega) (by omega))⟩
  exact loop N 0 (by omega) μ ⟨fun _ _ => rfl, h.2.2.2.2.2.2.2.2⟩ h1 (fun _ _ _ _ _ _ => rfl) (fun i hi => by omega)
end

/-! what Big does: addTimes, against, figures -/
theorem zcmp_z {c : Int} (h : zcmp c 0 = 0) : c = 0 := by
  unfold zcmp at h
  split at h
  · omega
  · split at h <;> omega
section
variable {X : zX} {l : Launch} {d : Nat} {μ : zM} {a a1 a2 v v1 v2 : Int} {L : Nat} {Q : zM → Prop}
theorem k_addTimes {f : Int} (hd : 2 ≤ d) (hL : L < 1000) (h : zBv μ a L v) (h1 : zBv μ a1 L v1) (hab : a + 2 ≤ a1 ∨ a1 + 2 ≤ a) (f0 : 0 ≤ f) (f1 : f ≤ 100000000) (hv : v + v1 * f < zpw L) (hQ : ∀ ν, (∀ b : Int, b ≠ a → b ≠ a + 1 → ν b = μ b) → zBv ν a L (v + v1 * f) → Q ν) : zCv X true l d 0 0 y_Big_addTimes [(2, L, a), (2, L, a1), (0, 0, f)] μ Q := by
  obtain ⟨⟨g0, g1, g2, g3, g4⟩, g5⟩ := id h
  obtain ⟨⟨k0, k1, k2, k3, k4⟩, k5⟩ := id h1
  have dg0 := h.1.dig
  have dg1 := h1.1.dig
  have fin : ∀ (i : Nat) (ν : zM) (t : Int), i ≤ L → (∀ b : Int, b ≠ a + 1 → ν b = μ b) → zdig (ν (a + 1)) L → 0 ≤ t → (∀ j : Int, t ≤ j → j < L → ν (a + 1) j = 0) → znum (ν (a + 1)) L = v + v1 * f → zCv X true l 1 0 0 y_Big_settleUsed [(2, L, a), (0, 0, t)] ν (fun ν2 => zrn Q none ν2) := fun i ν t iL n1 n3 t0 n4 hc =>
    k_settleUsed (by omega) hL (by rw [n1 a (by omega)]; exact g0) n3 t0 n4 (fun ν' m1 m2 => hQ ν' (fun b b0 b1 => (m1 b b0).trans (n1 b b1)) ⟨m2, by rw [m1 _ (by omega)]; exact hc⟩)
  have loop : ∀ m i : Nat, i + m = L → ∀ (ν : zM) (c t : Int), (∀ b : Int, b ≠ a + 1 → ν b = μ b) → (∀ j : Int, i ≤ j → ν (a + 1) j = μ (a + 1) j) → zdig (ν (a + 1)) L → 0 ≤ c → c ≤ f → μ a 2 ≤ t → μ a1 2 ≤ t → i ≤ t → znum (ν (a + 1)) i + c * zpw i = znum (μ (a + 1)) i + znum (μ (a1 + 1)) i * f → zE X true l d 0 0 y_Big_addTimes 18 [some (2, L, a), some (2, L, a1), some (0, 0, f), some (1, 0, c), none, some (0, 0, t), some (0, 0, (i : Int)), none, none] [] ν (zrn Q) := by
    intro m
    induction m with
    | zero =>
      intro i hi ν c t n1 n2 n3 c0 c1 t0 t1 t2 hc
      obtain rfl : i = L := by omega
      have e0 : ν a = μ a := n1 a (by omega)
      have b1 := znum_bd i n3
      rw [g5, k5] at hc
      have cz : c = 0 := by
        by_cases e : c = 0
        · exact e
        · have b2 : 1 * zpw i ≤ c * zpw i := Int.mul_le_mul_of_nonneg_right (by omega) (by have := zpw_pos i; omega)
          omega
      rw [cz, Int.zero_mul, Int.add_zero] at hc
      exact s_Big_addTimes_18 (d1 := 1) (by omega) ⟨fun _ => fin i ν t (by omega) n1 n3 (by omega) (fun j j0 j1 => by omega) hc, fun c => absurd (by rw [e0]; omega) c⟩
    | succ m ih =>
      intro i hi ν c t n1 n2 n3 c0 c1 t0 t1 t2 hc
      have e0 : ν a = μ a := n1 a (by omega)
      have e1 : ν a1 = μ a1 := n1 a1 (by omega)
      have e2 : ν (a1 + 1) = μ (a1 + 1) := n1 _ (by omega)
      have e3 : ν (a + 1) i = μ (a + 1) i := n2 i (by omega)
      have f2 := dg0 i (by omega) (by omega)
      have f3 := dg1 i (by omega) (by omega)
      have p0 : 0 ≤ μ (a1 + 1) i * f := Int.mul_nonneg f3.1 f0
      have p1 : μ (a1 + 1) i * f ≤ 999999999 * f := Int.mul_le_mul_of_nonneg_right (by omega) f0
      have go : zE X true l d 0 0 y_Big_addTimes 73 [some (2, L, a), some (2, L, a1), some (0, 0, f), some (1, 0, c), none, some (0, 0, t), some (0, 0, (i : Int)), none, none] [(1, 0, μ (a1 + 1) i * f)] ν (zrn Q) := by
        refine s_Big_addTimes_73 (by omega) ⟨by omega, by omega, ?_⟩
        rw [e3, zwl_id (x := μ (a + 1) i + μ (a1 + 1) i * f) (by omega) (by omega), zwl_id (by omega) (by omega), zdivl_of (by omega) (by omega) (by decide) (by decide), zreml_of (by omega) (by omega) (by decide) (by decide), zw_of (x := (i : Int) + 1) (by omega) (by omega), zw_of (by omega) (by omega)]
        refine ih (i + 1) (by omega) _ _ _ (fun b hb => (zup_ne hb).trans (n1 b hb)) (fun j hj => (zup_miss (by omega)).trans (n2 j (by omega))) (fun j j0 j1 => ?_) (by omega) (by omega) (by split <;> omega) (by split <;> omega) (by split <;> omega) ?_
        · rw [zup_val]
          split
          · omega
          · exact n3 j j0 j1
        · rw [znum_up, zpw_succ]
          rw [zcarry (F := znum (μ (a + 1)) i + znum (μ (a1 + 1)) i * f) (c := c) (t := μ (a + 1) i + μ (a1 + 1) i * f) hc (by omega)]
          simp only [znum]
          grind
      have go' : zE X true l d 0 0 y_Big_addTimes 40 [some (2, L, a), some (2, L, a1), some (0, 0, f), some (1, 0, c), none, some (0, 0, t), some (0, 0, (i : Int)), none, none] [] ν (zrn Q) := by
        refine s_Big_addTimes_40 ⟨fun q => ?_, fun q => ⟨fun q2 => absurd q2 (by rw [e1]; omega), fun _ => ⟨by omega, ?_⟩⟩⟩
        · rw [e1] at q
          have z := (k3 i (by omega) (by omega)).2.2 q
          rw [z, Int.zero_mul] at go
          exact go
        · rw [e2, zwl_id (by omega) (by omega)]
          exact go
      refine s_Big_addTimes_18 (d1 := 1) (by omega) ⟨fun c => absurd c (by rw [e0]; omega), fun _ => ⟨fun _ => go', fun q => ⟨fun z => ?_, fun _ => go'⟩⟩⟩
      have cz := zcmp_z z
      have ti : t = i := by omega
      have zz : ∀ j : Int, i ≤ j → j < L → ν (a + 1) j = 0 := fun j j0 j1 => by
        rw [n2 j j0]
        exact (g3 j (by omega) j1).2.2 (by omega)
      refine fin i ν t (by omega) n1 n3 (by omega) (fun j j0 j1 => zz j (by omega) j1) ?_
      rw [cz, Int.zero_mul, Int.add_zero] at hc
      rw [znum_zeros (m := i) L (by omega) zz, hc, ← g5, ← k5, znum_zeros (f := μ (a + 1)) (m := i) L (by omega) (fun j j0 j1 => (g3 j (by omega) j1).2.2 (by omega)), znum_zeros (f := μ (a1 + 1)) (m := i) L (by omega) (fun j j0 j1 => (k3 j (by omega) j1).2.2 (by omega))]
  exact c_Big_addTimes (by omega) (loop L 0 (by omega) μ 0 _ (fun _ _ => rfl) (fun _ _ => rfl) dg0 (by omega) f0 (by split <;> omega) (by split <;> omega) (by split <;> omega) (by simp [znum]))
theorem k_against {Q : Int → zM → Prop} (hL : L < 1000) (h : zBv μ a L v) (h1 : zBv μ a1 L v1) (hQ : Q (if v < v1 then -1 else if v = v1 then 0 else 1) μ) : zCi X true l d 0 0 y_Big_against [(2, L, a), (2, L, a1)] μ Q := by
  obtain ⟨⟨g0, g1, g2, g3, g4⟩, g5⟩ := id h
  obtain ⟨⟨k0, k1, k2, k3, k4⟩, k5⟩ := id h1
  have dg0 := h.1.dig
  have dg1 := h1.1.dig
  obtain ⟨u, hu⟩ : ∃ u : Nat, μ a 2 = u := ⟨(μ a 2).toNat, by omega⟩
  obtain ⟨w, hw⟩ : ∃ w : Nat, μ a1 2 = w := ⟨(μ a1 2).toNat, by omega⟩
  have hU := h.used hu
  have hW := h1.used hw
  have bU := znum_bd u (f := μ (a + 1)) (fun i a b => dg0 i a (by omega))
  have bW := znum_bd w (f := μ (a1 + 1)) (fun i a b => dg1 i a (by omega))
  refine c_Big_against ⟨fun c => ?_, fun c => ?_⟩
  · have loop : ∀ n : Nat, n ≤ u → (∀ j : Int, n ≤ j → j < L → μ (a + 1) j = μ (a1 + 1) j) → zE X true l d 0 0 y_Big_against 35 [some (2, L, a), some (2, L, a1), some (0, 0, (n : Int) - 1)] [] μ (zri Q) := by
      intro n
      induction n with
      | zero =>
        intro hn hs
        have e : v = v1 := by rw [← g5, ← k5]; exact znum_congr L (fun j j0 j1 => hs j (by omega) j1)
        rw [e, if_neg (by omega), if_pos rfl] at hQ
        exact s_Big_against_35 ⟨fun _ => hQ, fun c => absurd (by omega) c⟩
      | succ n ih =>
        intro hn hs
        have en : ((n + 1 : Nat) : Int) - 1 = n := by omega
        rw [en]
        refine s_Big_against_35 ⟨fun c => absurd c (by omega), fun _ => ⟨fun c => absurd c (by omega), fun _ => ⟨fun c => absurd c (by omega), fun _ => ⟨by omega, by omega, fun e => ?_, fun e => ⟨by omega, by omega, ?_⟩⟩⟩⟩⟩
        · rw [zw_of (by omega) (by omega), show (n : Int) + (-1) = n - 1 by omega]
          refine ih (by omega) (fun j j0 j1 => ?_)
          by_cases q : j = n
          · rw [q]; exact e
          · exact hs j (by omega) j1
        · by_cases q : μ (a1 + 1) n ≤ μ (a + 1) n
          · rw [if_pos q]
            have := znum_lt (f := μ (a1 + 1)) (g := μ (a + 1)) (k := n) dg1 dg0 (by omega) (fun j j0 j1 => (hs j (by omega) j1).symm) (by omega)
            rw [if_neg (by omega), if_neg (by omega)] at hQ
            exact hQ
          · rw [if_neg q]
            have := znum_lt (f := μ (a + 1)) (g := μ (a1 + 1)) (k := n) dg0 dg1 (by omega) (fun j j0 j1 => hs j (by omega) j1) (by omega)
            rw [if_pos (by omega)] at hQ
            exact hQ
    rw [hu, zw_of (by omega) (by omega)]
    exact loop u (by omega) (fun j j0 j1 => by rw [(g3 j (by omega) j1).2.2 (by omega), (k3 j (by omega) j1).2.2 (by omega)])
  · rw [hu, hw] at c ⊢
    by_cases q : w ≤ u
    · have k := g4 (by omega)
      rw [hu] at k
      have := znum_top (u := u - 1) dg0 (by omega) (by rw [show ((u - 1 : Nat) : Int) = (u : Int) - 1 by omega]; exact k)
      have := zpw_mono (m := w) (n := u - 1) (by omega)
      rw [if_pos (by omega)]
      rw [if_neg (by omega), if_neg (by omega)] at hQ
      exact hQ
    · have k := k4 (by omega)
      rw [hw] at k
      have := znum_top (u := w - 1) dg1 (by omega) (by rw [show ((w - 1 : Nat) : Int) = (w : Int) - 1 by omega]; exact k)
      have := zpw_mono (m := u) (n := w - 1) (by omega)
      rw [if_neg (by omega)]
      rw [if_pos (by omega)] at hQ
      exact hQ
end
/-- a limb's figure is the number's -/
theorem zfig {v : Int} (k r : Nat) (hr : r < 9) : v / zpw k % 1000000000 / 10 ^ r % 10 = v / 10 ^ (9 * k + r) % 10 := by
  have e : v / 10 ^ (9 * k + r) = v / zpw k / 10 ^ r := by
    rw [Int.ediv_ediv_of_nonneg (by have := zpw_pos k; omega)]
    congr 1
    unfold zpw
    rw [show (1000000000 : Int) = 10 ^ 9 by decide, ← Int.pow_mul, ← Int.pow_add]
  rw [e]
  generalize v / zpw k = x
  have : r = 0 ∨ r = 1 ∨ r = 2 ∨ r = 3 ∨ r = 4 ∨ r = 5 ∨ r = 6 ∨ r = 7 ∨ r = 8 := by omega
  rcases this with rfl | rfl | rfl | rfl | rfl | rfl | rfl | rfl | rfl
  · rw [show (10 : Int) ^ 0 = 1 by decide]; omega
  · rw [show (10 : Int) ^ 1 = 10 by decide]; omega
  · rw [show (10 : Int) ^ 2 = 100 by decide]; omega
  · rw [show (10 : Int) ^ 3 = 1000 by decide]; omega
  · rw [show (10 : Int) ^ 4 = 10000 by decide]; omega
  · rw [show (10 : Int) ^ 5 = 100000 by decide]; omega
  · rw [show (10 : Int) ^ 6 = 1000000 by decide]; omega
  · rw [show (10 : Int) ^ 7 = 10000000 by decide]; omega
  · rw [show (10 : Int) ^ 8 = 100000000 by decide]; omega
theorem zfig_step {w M : Int} (hM : 0 < M) : 10 * (w / 10 % M) + w % 10 = w % (10 * M) := by
  have h1 := Int.mul_ediv_add_emod (w / 10) M
  have h2 := Int.emod_nonneg (w / 10) (by omega : M ≠ 0)
  have h3 := Int.emod_lt_of_pos (w / 10) hM
  have e : w = (10 * (w / 10 % M) + w % 10) + (10 * M) * (w / 10 / M) := by
    rw [Int.mul_assoc]
    omega
  conv => rhs; rw [e]
  rw [Int.add_mul_emod_self_left, Int.emod_eq_of_lt (a := 10 * (w / 10 % M) + w % 10) (b := 10 * M) (by omega) (by omega)]
section
variable {X : zX} {l : Launch} {d : Nat} {μ : zM} {a v : Int} {L : Nat} {Q : Int → zM → Prop}
theorem k_figures {s m : Nat} (hd : 1 ≤ d) (hL : L < 1000) (h : zBv μ a L v) (hs : s < 10000) (hm : m ≤ 8) (hQ : Q (v / 10 ^ s % 10 ^ m) μ) : zCi X true l d 0 0 y_Big_figures [(2, L, a), (0, 0, (s : Int)), (0, 0, (m : Int))] μ Q := by
  have dg := h.1.dig
  have hv := h.2
  have lm : ∀ k : Nat, (if (k : Int) < L then μ (a + 1) k else 0) = v / zpw k % 1000000000 := fun k => by
    by_cases c : k < L
    · rw [if_pos (by omega), znum_at dg c, hv]
    · rw [if_neg (by omega)]
      have b := h.bd
      rw [Int.ediv_eq_zero_of_lt b.1 (Int.lt_of_lt_of_le b.2 (zpw_mono (by omega)))]
      rfl
  have loop : ∀ n k : Nat, n + k = m → zE X true l d 0 0 y_Big_figures 9 [some (2, L, a), some (0, 0, (s : Int)), none, some (0, 0, v / 10 ^ (s + n) % 10 ^ k), some (0, 0, ((s + n : Nat) : Int) - 1)] [] μ (zri Q) := by
    intro n
    induction n with
    | zero =>
      intro k hk
      obtain rfl : k = m := by omega
      exact s_Big_figures_9 (d1 := 0) (by omega) ⟨fun _ => hQ, fun c => absurd (by omega) c⟩
    | succ n ih =>
      intro k hk
      have en : ((s + (n + 1) : Nat) : Int) - 1 = ((s + n : Nat) : Int) := by omega
      rw [en]
      have q1 : zdivi ((s + n : Nat) : Int) 9 = (((s + n) / 9 : Nat) : Int) := by rw [zdivi_of (by omega) (by omega) (by decide) (by decide)]; omega
      have q2 : zremi ((s + n : Nat) : Int) 9 = (((s + n) % 9 : Nat) : Int) := by rw [zremi_of (by omega) (by omega) (by decide) (by decide)]; omega
      have tp : 0 < ztens ((s + n) % 9) ∧ ztens ((s + n) % 9) < 1000000000 := by
        have : ∀ n : Nat, n < 9 → 0 < ztens n ∧ ztens n < 1000000000 := by decide
        exact this _ (by omega)
      refine s_Big_figures_9 (d1 := 0) (by omega) ⟨fun c => absurd c (by omega), fun _ => ⟨fun c => absurd c (by omega), fun _ => ?_⟩⟩
      rw [q1, q2, Int.toNat_natCast]
      refine k_limbAt h.1 (by omega) ⟨by omega, by omega, ?_⟩
      rw [lm]
      have b0 : 0 ≤ v / zpw ((s + n) / 9) % 1000000000 ∧ v / zpw ((s + n) / 9) % 1000000000 < 1000000000 := by omega
      have b1 : 0 ≤ v / zpw ((s + n) / 9) % 1000000000 / ztens ((s + n) % 9) := Int.ediv_nonneg b0.1 (by omega)
      have b2 : v / zpw ((s + n) / 9) % 1000000000 / ztens ((s + n) % 9) ≤ v / zpw ((s + n) / 9) % 1000000000 := Int.ediv_le_self _ b0.1
      rw [zdivi_of b0.1 (by omega) tp.1 (by omega), zremi_of b1 (by omega) (by decide) (by decide), ztens_pow _ (by omega), zfig _ _ (by omega), show 9 * ((s + n) / 9) + (s + n) % 9 = s + n by omega]
      have pk : (0 : Int) < 10 ^ k := zten_pos k
      have pm : (10 : Int) ^ k ≤ 10000000 := by
        have : k ≤ 7 := by omega
        have : ∀ k : Nat, k ≤ 7 → (10 : Int) ^ k ≤ 10000000 := by decide
        exact this k (by omega)
      have b3 := Int.emod_nonneg (v / 10 ^ (s + (n + 1))) (by omega : (10 : Int) ^ k ≠ 0)
      have b4 := Int.emod_lt_of_pos (v / 10 ^ (s + (n + 1))) pk
      have e5 : v / 10 ^ (s + (n + 1)) = v / 10 ^ (s + n) / 10 := by
        rw [Int.ediv_ediv_of_nonneg (by have := zten_pos (s + n); omega), ← Nat.add_assoc, Int.pow_succ]
      have st := zfig_step (w := v / 10 ^ (s + n)) pk
      rw [← e5, show 10 * (10 : Int) ^ k = 10 ^ (k + 1) by rw [Int.pow_succ, Int.mul_comm]] at st
      rw [zw_of (x := 10 * _) (by omega) (by omega), zw_of (x := 10 * _ + _) (by omega) (by omega), st, zw_of (by omega) (by omega), show ((s + n : Nat) : Int) + (-1) = ((s + n : Nat) : Int) - 1 by omega]
      exact ih (k + 1) (by omega)
  have l0 := loop m 0 (by omega)
  rw [show v / 10 ^ (s + m) % 10 ^ 0 = 0 by rw [show (10 : Int) ^ 0 = 1 by decide]; omega] at l0
  refine c_Big_figures ?_
  rw [zw_of (x := (s : Int) + m) (by omega) (by omega), zw_of (by omega) (by omega), show (s : Int) + m - 1 = ((s + m : Nat) : Int) - 1 by omega]
  exact l0
end

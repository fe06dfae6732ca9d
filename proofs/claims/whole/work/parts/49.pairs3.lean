/-! paid friends -/
theorem zbit_ok : ∀ f : Nat, f < 32 → ∀ b : Nat, b < 5 → ∀ e : Nat, e < 2 → (if ¬ (e : Int) = 1 then zand f (zxor (zshl 1 b) (-1)) else zor f (zshl 1 b)) = zor (zand f (zxor (zshl 1 b) (-1))) (zshl e b) ∧ 0 ≤ zor (zand f (zxor (zshl 1 b) (-1))) (zshl e b) ∧ zor (zand f (zxor (zshl 1 b) (-1))) (zshl e b) ≤ 31 := by decide +kernel
section
variable {LR : zM → Int → (Int → Int) → Prop} {μ : zM} {X : zX} {l : Launch} {d : Nat} {Q : Int → Int → zM → Prop}
theorem k_S_paid {x w v : Int} {Q : Int → zM → Prop} (hd : 3 ≤ d) (hu : 0 ≤ μ 1 0 ∧ μ 1 0 < 6) (h1 : 0 ≤ x → x < 5 → 0 ≤ w → w ≤ 2 → 0 ≤ v → v ≤ (if w = 2 then 11 else 0) → Q (μ (24 + 6 * μ 1 0) x) (sok (zup (zup μ (24 + 6 * μ 1 0) x w) (25 + 6 * μ 1 0) x v))) (h0 : ¬ (0 ≤ x ∧ x < 5 ∧ 0 ≤ w ∧ w ≤ 2 ∧ 0 ≤ v ∧ v ≤ (if w = 2 then 11 else 0)) → Q (-1) (sref μ (-1) 0)) : zCi X true l d 0 0 y_S_paid [(12, 0, 0), (0, 0, x), (0, 0, w), (0, 0, v)] μ Q := by
  refine c_S_paid (d1 := 2) (by omega) (k_S_isPerson (fun p1 p2 => ⟨fun c => absurd c (by decide), fun _ => k_S_within (fun p3 p4 => ⟨fun c => absurd c (by decide), fun _ => ?_⟩) (fun p => ⟨fun _ => k_S_refuse1 (h0 (by omega)), fun c => absurd rfl c⟩)⟩) (fun p => ⟨fun _ => k_S_refuse1 (h0 (by omega)), fun c => absurd rfl c⟩))
  have e : (if ¬ w = 2 then (0 : Int) else 11) = if w = 2 then 11 else 0 := by by_cases h : w = 2 <;> simp [h]
  rw [e]
  refine k_S_within (fun p5 p6 => ⟨fun _ => k_S_planInUse (by omega) hu ⟨⟨p1, p2⟩, ⟨p1, p2⟩, ⟨p1, p2⟩, ?_⟩, fun c => absurd c (by decide)⟩) (fun p => ⟨fun c => absurd rfl c, fun _ => k_S_refuse1 (h0 (fun q => p ⟨q.2.2.2.2.1, q.2.2.2.2.2⟩))⟩)
  have e1 : (23 : Int) + 6 * μ 1 0 + 1 = 24 + 6 * μ 1 0 := by omega
  have e2 : (23 : Int) + 6 * μ 1 0 + 2 = 25 + 6 * μ 1 0 := by omega
  rw [e1, e2]
  exact k_S_allow (h1 p1 p2 p3 p4 p5 p6)
theorem k_M_paid {x w v : Int} {Q : Int → zM → Prop} (hd : 3 ≤ d) (hu : 0 ≤ μ 1322 0 ∧ μ 1322 0 < 6) (h1 : 0 ≤ x → x < 5 → 0 ≤ w → w ≤ 2 → 0 ≤ v → v ≤ (if w = 2 then 11 else 0) → Q ((zup (zup μ 1320 0 0) 1322 (40 + 10 * μ 1322 0 + 2 * x + 1) v) 1322 (40 + 10 * μ 1322 0 + 2 * x)) (mok (zup (zup (zup μ 1320 0 0) 1322 (40 + 10 * μ 1322 0 + 2 * x + 1) v) 1322 (40 + 10 * μ 1322 0 + 2 * x) w))) (h0 : ¬ (0 ≤ x ∧ x < 5 ∧ 0 ≤ w ∧ w ≤ 2 ∧ 0 ≤ v ∧ v ≤ (if w = 2 then 11 else 0)) → Q (-1) (mref (zup μ 1320 0 0) (-1))) : zCi X true l d 0 0 y_M_paid [(13, 0, 1320), (0, 0, x), (0, 0, w), (0, 0, v)] μ Q := by
  refine c_M_paid (d1 := 2) (by omega) (k_M_isPerson (by omega) (fun p1 p2 => ⟨fun c => absurd c (by decide), fun _ => k_M_in (fun p3 p4 => ⟨fun c => absurd c (by decide), fun _ => ?_⟩) (fun p => ⟨fun _ => k_M_telln (by decide) (h0 (by omega)), fun c => absurd rfl c⟩)⟩) (fun p => ⟨fun _ => k_M_telln (by decide) (h0 (by omega)), fun c => absurd rfl c⟩))
  have e0 : zup μ 1320 0 0 (1320 + 2) 0 = μ 1322 0 := by rw [zup_ne (by decide)]; rfl
  have key : ∀ t : Int, t = (if w = 2 then 11 else 0) → zE X true l d 0 0 y_M_paid 39 [some (13, 0, 1320), some (0, 0, x), some (0, 0, w), some (0, 0, v), none] [(1, 0, t), (1, 0, 0), (1, 0, v)] (zup μ 1320 0 0) (zri Q) := by
    intro t ht
    subst ht
    refine s_M_paid_39 (d1 := 2) (by omega) (k_M_in (fun p5 p6 => ⟨fun _ => ?_, fun c => absurd c (by decide)⟩) (fun p => ⟨fun c => absurd rfl c, fun _ => k_M_telln (by decide) (h0 (fun q => p ⟨q.2.2.2.2.1, q.2.2.2.2.2⟩))⟩))
    rw [e0, zw_of (x := 10 * μ 1322 0) (by omega) (by omega), zw_of (x := 40 + 10 * μ 1322 0) (by omega) (by omega), zw_of (x := 2 * x) (by omega) (by omega), zw_of (x := 40 + 10 * μ 1322 0 + 2 * x) (by omega) (by omega), zw_of (x := 40 + 10 * μ 1322 0 + 2 * x + 1) (by omega) (by omega)]
    exact ⟨⟨by omega, by omega⟩, k_M_change (by omega) (by omega) (by omega) (h1 p1 p2 p3 p4 p5 p6)⟩
  exact ⟨fun c => key 0 (by rw [if_neg c]), fun c => key 11 (by rw [if_pos c])⟩
theorem p_paid {x w y : Int} (hL : zLRok LR) (h : zInv LR μ) (hd : 3 ≤ d) (hQ : ∀ v ρ, zInv LR ρ → Q v v ρ) : zCi X true l d 0 0 y_S_paid [(12, 0, 0), (0, 0, x), (0, 0, w), (0, 0, y)] μ (fun v ν => zCi X true l d 0 0 y_M_paid [(13, 0, 1320), (0, 0, x), (0, 0, w), (0, 0, y)] ν (fun w ρ => Q v w ρ)) := by
  obtain ⟨e0, u0, u1⟩ := h.use
  obtain ⟨p, hp⟩ : ∃ p : Nat, μ 1322 0 = p := ⟨(μ 1322 0).toNat, by omega⟩
  have er : ∀ a s v b t u : Int, a ≠ 1322 → b ≠ 1322 → sok (zup (zup μ a s v) b t u) 1322 = μ 1322 := fun a s v b t u h1 h2 => by
    unfold sok
    rw [zup_ne (by decide), zup_ne (fun q => h2 q.symm), zup_ne (fun q => h1 q.symm)]
  refine k_S_paid hd (by omega) (fun a1 a2 a3 a4 a5 a6 => k_M_paid hd ?_ (fun _ _ _ _ _ _ => ?_) (fun c => absurd ⟨a1, a2, a3, a4, a5, a6⟩ c)) (fun c => k_M_paid hd ?_ (fun a1 a2 a3 a4 a5 a6 => absurd ⟨a1, a2, a3, a4, a5, a6⟩ c) (fun _ => hQ _ _ (h.ref hL (by omega))))
  · rw [er _ _ _ _ _ _ (by omega) (by omega)]; omega
  · rw [er _ _ _ _ _ _ (by omega) (by omega)]
    obtain ⟨i, rfl⟩ : ∃ i : Nat, x = i := ⟨x.toNat, by omega⟩
    have z0 := zl_paid p (by omega) i (by omega) 0 (by omega)
    have z1 := zl_paid p (by omega) i (by omega) 1 (by omega)
    have hb : y ≤ 11 := by split at a6 <;> omega
    have k0 : (40 : Int) + 10 * μ 1322 0 + 2 * (i : Int) = ((40 + 10 * p + 2 * i + 0 : Nat) : Int) := by omega
    have k1 : (40 : Int) + 10 * μ 1322 0 + 2 * (i : Int) + 1 = ((40 + 10 * p + 2 * i + 1 : Nat) : Int) := by omega
    have hB0 : zRB (zrw (μ 1322) ((40 + 10 * p + 2 * i + 0 : Nat) : Int) w) := h.2.2.2.2.2.1.2.1.up (by right; right; left; refine ⟨by omega, by omega, a3, ?_⟩; rw [if_pos (by omega)]; exact a4)
    have hB1 : zRB (zrw (zrw (μ 1322) ((40 + 10 * p + 2 * i + 0 : Nat) : Int) w) ((40 + 10 * p + 2 * i + 1 : Nat) : Int) y) := hB0.up (by right; right; left; refine ⟨by omega, by omega, a5, ?_⟩; rw [if_neg (by omega)]; exact hb)
    have hR1 := h.2.2.2.2.2.1.up hL (k := 40 + 10 * p + 2 * i + 0) (v := w) (a := 24 + 6 * μ 1 0) (s := i) (by unfold zvl; rw [z0]; show 23 + 6 * p + 0 < 58; omega) (zU_free (by omega)) (by omega) (by rw [z0]; show 24 + 6 * μ 1 0 = 1 + ((23 + 6 * p + 0 : Nat) : Int); omega) (by rw [z0]) hB0
    have hR2 := hR1.up hL (k := 40 + 10 * p + 2 * i + 1) (v := y) (a := 25 + 6 * μ 1 0) (s := i) (by unfold zvl; rw [z1]; show 23 + 6 * p + 1 < 58; omega) (zU_free (by omega)) (by omega) (by rw [z1]; show 25 + 6 * μ 1 0 = 1 + ((23 + 6 * p + 1 : Nat) : Int); omega) (by rw [z1]) hB1
    have ev : μ (24 + 6 * μ 1 0) i = μ 1322 (40 + 10 * μ 1322 0 + 2 * (i : Int)) := by
      have := h.num (40 + 10 * p + 2 * i + 0) (by omega) z0 (by omega)
      rw [k0]
      have e9 : (24 : Int) + 6 * μ 1 0 = 1 + ((23 + 6 * p + 0 : Nat) : Int) := by omega
      rw [e9]
      exact this
    have ew : (zup (zup (sok (zup (zup μ (24 + 6 * μ 1 0) i w) (25 + 6 * μ 1 0) i y)) 1320 0 0) 1322 (40 + 10 * μ 1322 0 + 2 * (i : Int) + 1) y) 1322 (40 + 10 * μ 1322 0 + 2 * (i : Int)) = μ 1322 (40 + 10 * μ 1322 0 + 2 * (i : Int)) := by
      rw [zup_miss (by omega), zup_ne (by decide), er _ _ _ _ _ _ (by omega) (by omega)]
    rw [ew, ev]
    refine hQ _ _ (h.room hL (μ1 := zup (zup μ (24 + 6 * μ 1 0) i w) (25 + 6 * μ 1 0) i y) (fun b hb => ?_) hR2 (fun b q1 q2 q3 => ?_) (fun j hj => ?_) (fun j q1 q2 => ?_) ?_ ?_)
    · rw [zup_ne (by omega), zup_ne (by omega)]
    · unfold mok sok
      rw [zup_ne q2, zup_ne q3, zup_ne q3, zup_ne q2, zup_ne q1]
    · unfold mok sok
      rw [zup_ne (by decide), zup_ne (by decide), zup_ne (by decide), zup_ne (by decide), zup_miss (by omega), zup_ne (by omega), zup_ne (by omega)]
    · unfold mok sok
      rw [zup_miss (by omega), zup_ne (by decide), zup_ne (by decide), zup_miss (by omega), zup_ne (by decide), zup_ne (by omega), zup_ne (by omega)]
    · unfold mok sok
      rw [zup_hit, zup_ne (by decide), zup_ne (by decide), zup_ne (by decide), zup_ne (by decide), zup_hit]
    · unfold mok
      rw [zup_ne (by decide), zup_at, zup_at, zup_ne (by decide), er _ _ _ _ _ _ (by omega) (by omega), k1, k0]
      funext j
      unfold zrw
      by_cases c0 : j = ((40 + 10 * p + 2 * i + 0 : Nat) : Int)
      · rw [if_pos c0, if_neg (by omega), if_pos c0]
      · rw [if_neg c0]
        by_cases c1 : j = ((40 + 10 * p + 2 * i + 1 : Nat) : Int)
        · simp only [if_pos c1]
        · simp only [if_neg c1, if_neg c0]
  · rw [sref_row]; omega
theorem k_S_friends {a b e : Int} {Q : Int → zM → Prop} (hd : 3 ≤ d) (h1 : 0 ≤ a → a < 5 → 0 ≤ b → b < 5 → ¬ a = b → 0 ≤ e → e ≤ 1 → Q (zand (zshr (μ 7 a) b) 1) (sok (zup (zup μ 7 a (if ¬ e = 1 then zand (μ 7 a) (zxor (zshl 1 b) (-1)) else zor (μ 7 a) (zshl 1 b))) 7 b (if ¬ e = 1 then zand (μ 7 b) (zxor (zshl 1 a) (-1)) else zor (μ 7 b) (zshl 1 a))))) (h0 : ¬ (0 ≤ a ∧ a < 5 ∧ 0 ≤ b ∧ b < 5 ∧ ¬ a = b ∧ 0 ≤ e ∧ e ≤ 1) → Q (-1) (sref μ (-1) 0)) : zCi X true l d 0 0 y_S_friends [(12, 0, 0), (0, 0, a), (0, 0, b), (0, 0, e)] μ Q := by
  refine c_S_friends (d1 := 2) (by omega) (k_S_isPerson (fun p1 p2 => ⟨fun c => absurd c (by decide), fun _ => k_S_isPerson (fun p3 p4 => ⟨fun c => absurd c (by decide), fun _ => ⟨fun c => k_S_refuse1 (h0 (by omega)), fun p5 => k_S_within (fun p6 p7 => ⟨fun _ => ⟨⟨p1, p2⟩, ⟨p1, p2⟩, c_S_withBit ⟨⟨p1, p2⟩, ⟨p3, p4⟩, ?_⟩⟩, fun c => absurd c (by decide)⟩) (fun p => ⟨fun c => absurd rfl c, fun _ => k_S_refuse1 (h0 (by omega))⟩)⟩⟩) (fun p => ⟨fun _ => k_S_refuse1 (h0 (by omega)), fun c => absurd rfl c⟩)⟩) (fun p => ⟨fun _ => k_S_refuse1 (h0 (by omega)), fun c => absurd rfl c⟩))
  rw [zup_miss (show ¬ ((0 : Int) + 1 + 6 = 0 + 1 + 6 ∧ b = a) by omega)]
  exact c_S_withBit ⟨⟨p3, p4⟩, k_S_allow (h1 p1 p2 p3 p4 p5 p6 p7)⟩
theorem k_M_friends {a b e : Int} {Q : Int → zM → Prop} (hd : 3 ≤ d) (h1 : 0 ≤ a → a < 5 → 0 ≤ b → b < 5 → ¬ a = b → 0 ≤ e → e ≤ 1 → Q (zand (zshr (μ 1322 (190 + a)) b) 1) (mok (zup (zup (zup μ 1320 0 0) 1322 (190 + a) (zor (zand (μ 1322 (190 + a)) (zxor (zshl 1 b) (-1))) (zshl e b))) 1322 (190 + b) (zor (zand (μ 1322 (190 + b)) (zxor (zshl 1 a) (-1))) (zshl e a))))) (h0 : ¬ (0 ≤ a ∧ a < 5 ∧ 0 ≤ b ∧ b < 5 ∧ ¬ a = b ∧ 0 ≤ e ∧ e ≤ 1) → Q (-1) (mref (zup μ 1320 0 0) (-1))) : zCi X true l d 0 0 y_M_friends [(13, 0, 1320), (0, 0, a), (0, 0, b), (0, 0, e)] μ Q := by
  refine c_M_friends (d1 := 2) (by omega) (k_M_isPerson (by omega) (fun p1 p2 => ⟨fun c => absurd c (by decide), fun _ => k_M_isPerson (by omega) (fun p3 p4 => ⟨fun c => absurd c (by decide), fun _ => ⟨fun c => k_M_telln (by decide) (h0 (by omega)), fun p5 => k_M_in (fun p6 p7 => ⟨fun _ => ?_, fun c => absurd c (by decide)⟩) (fun p => ⟨fun c => absurd rfl c, fun _ => k_M_telln (by decide) (h0 (by omega))⟩)⟩⟩) (fun p => ⟨fun _ => k_M_telln (by decide) (h0 (by omega)), fun c => absurd rfl c⟩)⟩) (fun p => ⟨fun _ => k_M_telln (by decide) (h0 (by omega)), fun c => absurd rfl c⟩))
  rw [zw_of (x := 190 + a) (by omega) (by omega), zw_of (x := 190 + b) (by omega) (by omega)]
  have e1 : zup μ 1320 0 0 (1320 + 2) (190 + a) = μ 1322 (190 + a) := zup_miss (by omega)
  have e2 : ∀ v : Int, zup (zup μ 1320 0 0) (1320 + 2) (190 + a) v (1320 + 2) (190 + b) = μ 1322 (190 + b) := fun v => by
    rw [zup_miss (by omega)]
    exact zup_miss (by omega)
  rw [e1, e2]
  exact ⟨⟨by omega, by omega⟩, ⟨by omega, by omega⟩, ⟨by omega, by omega⟩, ⟨by omega, by omega⟩, ⟨by omega, by omega⟩, k_M_was (h1 p1 p2 p3 p4 p5 p6 p7)⟩
theorem p_friends {a b e : Int} (hL : zLRok LR) (h : zInv LR μ) (hd : 3 ≤ d) (hQ : ∀ v ρ, zInv LR ρ → Q v v ρ) : zCi X true l d 0 0 y_S_friends [(12, 0, 0), (0, 0, a), (0, 0, b), (0, 0, e)] μ (fun v ν => zCi X true l d 0 0 y_M_friends [(13, 0, 1320), (0, 0, a), (0, 0, b), (0, 0, e)] ν (fun w ρ => Q v w ρ)) := by
  refine k_S_friends hd (fun a1 a2 a3 a4 a5 a6 a7 => k_M_friends hd (fun _ _ _ _ _ _ _ => ?_) (fun c => absurd ⟨a1, a2, a3, a4, a5, a6, a7⟩ c)) (fun c => k_M_friends hd (fun a1 a2 a3 a4 a5 a6 a7 => absurd ⟨a1, a2, a3, a4, a5, a6, a7⟩ c) (fun _ => hQ _ _ (h.ref hL (by omega))))
  obtain ⟨i, rfl⟩ : ∃ i : Nat, a = i := ⟨a.toNat, by omega⟩
  obtain ⟨j, rfl⟩ : ∃ j : Nat, b = j := ⟨b.toNat, by omega⟩
  obtain ⟨k, rfl⟩ : ∃ k : Nat, e = k := ⟨e.toNat, by omega⟩
  have hRB := h.2.2.2.2.2.1.2.1
  have b12 := hRB.2.2.2.2.2.2.2.2.2.2.2.2.1
  have bi := b12 (190 + i) (by omega) (by omega)
  have bj := b12 (190 + j) (by omega) (by omega)
  have ri : μ 7 i = μ 1322 (190 + (i : Int)) := by
    have := h.num (190 + i) (by omega) (zl_friend i (by omega)) (by omega)
    exact this
  have rj : μ 7 j = μ 1322 (190 + (j : Int)) := by
    have := h.num (190 + j) (by omega) (zl_friend j (by omega)) (by omega)
    exact this
  obtain ⟨fi, hfi⟩ : ∃ f : Nat, μ 1322 (190 + (i : Int)) = f := ⟨(μ 1322 (190 + (i : Int))).toNat, by omega⟩
  obtain ⟨fj, hfj⟩ : ∃ f : Nat, μ 1322 (190 + (j : Int)) = f := ⟨(μ 1322 (190 + (j : Int))).toNat, by omega⟩
  have zi := zbit_ok fi (by omega) j (by omega) k (by omega)
  have zj := zbit_ok fj (by omega) i (by omega) k (by omega)
  have er : ∀ s v t u : Int, sok (zup (zup μ 7 s v) 7 t u) 1322 = μ 1322 := fun s v t u => by
    unfold sok
    rw [zup_ne (by decide), zup_ne (by decide), zup_ne (by decide)]
  rw [er, ri, rj, hfi, hfj, zi.1, zj.1]
  generalize zor (zand (fi : Int) (zxor (zshl 1 j) (-1))) (zshl k j) = vi at zi ⊢
  generalize zor (zand (fj : Int) (zxor (zshl 1 i) (-1))) (zshl k i) = vj at zj ⊢
  have hB0 : zRB (zrw (μ 1322) ((190 + i : Nat) : Int) vi) := hRB.up (by omega)
  have hB1 : zRB (zrw (zrw (μ 1322) ((190 + i : Nat) : Int) vi) ((190 + j : Nat) : Int) vj) := hB0.up (by omega)
  have hR1 := h.2.2.2.2.2.1.up hL (k := 190 + i) (v := vi) (a := 7) (s := i) (by unfold zvl; rw [zl_friend i (by omega)]; show (7 : Nat) - 1 < 58; omega) (zU_free (by omega)) (by omega) (by rw [zl_friend i (by omega)]; rfl) (by rw [zl_friend i (by omega)]) hB0
  have hR2 := hR1.up hL (k := 190 + j) (v := vj) (a := 7) (s := j) (by unfold zvl; rw [zl_friend j (by omega)]; show (7 : Nat) - 1 < 58; omega) (zU_free (by omega)) (by omega) (by rw [zl_friend j (by omega)]; rfl) (by rw [zl_friend j (by omega)]) hB1
  refine hQ _ _ (h.room hL (μ1 := zup (zup μ 7 i vi) 7 j vj) (fun b hb => ?_) hR2 (fun b q1 q2 q3 => ?_) (fun j' hj => ?_) (fun j' q1 q2 => ?_) ?_ ?_)
  · rw [zup_ne (by omega), zup_ne (by omega)]
  · unfold mok sok
    rw [zup_ne q2, zup_ne q3, zup_ne q3, zup_ne q2, zup_ne q1]
  · unfold mok sok
    rw [zup_ne (by decide), zup_ne (by decide), zup_ne (by decide), zup_ne (by decide), zup_miss (by omega), zup_ne (by decide), zup_ne (by decide)]
  · unfold mok sok
    rw [zup_miss (by omega), zup_ne (by decide), zup_ne (by decide), zup_miss (by omega), zup_ne (by decide), zup_ne (by decide), zup_ne (by decide)]
  · unfold mok sok
    rw [zup_hit, zup_ne (by decide), zup_ne (by decide), zup_ne (by decide), zup_ne (by decide), zup_hit]
  · unfold mok
    rw [zup_ne (by decide), zup_at, zup_at, zup_ne (by decide), er]
    rfl
end

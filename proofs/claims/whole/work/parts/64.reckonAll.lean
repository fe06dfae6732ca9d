/-! the same of the reference's code -/
def zMk (op : Int) : Int := if op = 0 then 0 else if op < 20 then 1 else if op < 27 then op - 18 else if op = 27 then 9 else if op = 28 then 11 else if op = 29 then 10 else 99
def zMa (op arg : Int) : Int := if op = 0 then arg else if op < 20 then op - 1 else arg
theorem zin_01 {v : Int} (h : v = 0 ∨ v = 1) : zin v = some v := by
  unfold zin
  rw [if_pos (by omega)]
section
variable {X : zX} {l : Launch} {d : Nat} {μ : zM} {a0 : Int}
theorem k_M_reckon {Q : Int → zM → Prop} {op x y : Int} (o0 : 20 ≤ op) (o1 : op < 27) (hx : zb9 x) (hy : zb9 y) (h27 : μ a0 27 = 0) (h1 : ∀ v ν, (∀ b : Int, b ≠ a0 → ν b = μ b) → (∀ q : Int, ν a0 q = μ a0 q) → zjn (op - 18) x y = zin v → -4000000000000000000 ≤ v → v ≤ 4000000000000000000 → Q v ν) (h0 : ∀ ν, (∀ b : Int, b ≠ a0 → ν b = μ b) → (∀ q : Int, q ≠ 27 → ν a0 q = μ a0 q) → ν a0 27 = 1 → zjn (op - 18) x y = none → Q 0 ν) : zCl X true l d 0 0 y_M_reckon [(13, 0, a0), (0, 0, op), (1, 0, x), (1, 0, y)] μ Q := by
  have hxy : -1000000000000000000 ≤ x * y ∧ x * y ≤ 1000000000000000000 := by
    unfold zb9 at hx hy
    have a1 : (x * y).natAbs = x.natAbs * y.natAbs := Int.natAbs_mul x y
    have a2 : x.natAbs * y.natAbs ≤ 1000000000 * 1000000000 := Nat.mul_le_mul (by omega) (by omega)
    omega
  have hb := hx
  have hb' := hy
  unfold zb9 at hx hy
  unfold zjn at h1 h0
  refine c_M_reckon ⟨fun e => ?_, fun e => ?_, fun e => ?_, fun e => ?_, fun e => ?_, fun e => ?_, fun e => ?_⟩
  · rw [zwl_id (by omega) (by omega)]
    exact h1 _ _ (fun _ _ => rfl) (fun _ => rfl) (by rw [if_pos (by omega)]) (by omega) (by omega)
  · rw [zwl_id (by omega) (by omega)]
    exact h1 _ _ (fun _ _ => rfl) (fun _ => rfl) (by rw [if_neg (by omega), if_pos (by omega)]) (by omega) (by omega)
  · rw [zwl_id (by omega) (by omega)]
    exact h1 _ _ (fun _ _ => rfl) (fun _ => rfl) (by rw [if_neg (by omega), if_neg (by omega), if_pos (by omega)]) (by omega) (by omega)
  · by_cases c : y = 0
    · have e1 : (if ¬ zcmp y 0 = 0 then (0 : Int) else 1) = 1 := if_neg (by rw [zcmp_e]; omega)
      rw [e1]
      refine ⟨Or.inr rfl, fun q => absurd q (by rw [zup_hit]; decide), fun _ => h0 _ (fun b hb => zup_ne hb) (fun q hq => zup_miss (by omega)) zup_hit ?_⟩
      rw [if_neg (by omega), if_neg (by omega), if_neg (by omega), if_pos (by omega), if_pos c]
    · have e1 : (if ¬ zcmp y 0 = 0 then (0 : Int) else 1) = 0 := if_pos (by rw [zcmp_e]; omega)
      rw [e1]
      have hn := Int.natAbs_tdiv_le_natAbs x y
      refine ⟨Or.inl rfl, fun _ => ⟨c, h1 _ _ (fun b hb => zup_ne hb) (fun q => ?_) ?_ ?_ ?_⟩, fun q => absurd zup_hit q⟩
      · by_cases e2 : q = 27
        · rw [e2, zup_hit, h27]
        · exact zup_miss (by omega)
      · rw [if_neg (by omega), if_neg (by omega), if_neg (by omega), if_pos (by omega), if_neg c, zdivl_t hb hb']
      · rw [zdivl_t hb hb']; omega
      · rw [zdivl_t hb hb']; omega
  · refine h1 _ _ (fun _ _ => rfl) (fun _ => rfl) ?_ (by split <;> omega) (by split <;> omega)
    rw [if_neg (by omega), if_neg (by omega), if_neg (by omega), if_neg (by omega), if_pos (by omega)]
    by_cases c : x < y
    · rw [if_pos c, if_neg (by rw [zcmp_ge]; omega), zin_01 (Or.inr rfl)]
    · rw [if_neg c, if_pos (by rw [zcmp_ge]; omega), zin_01 (Or.inl rfl)]
  · refine h1 _ _ (fun _ _ => rfl) (fun _ => rfl) ?_ (by split <;> omega) (by split <;> omega)
    rw [if_neg (by omega), if_neg (by omega), if_neg (by omega), if_neg (by omega), if_neg (by omega), if_pos (by omega)]
    by_cases c : y < x
    · rw [if_pos c, if_neg (by rw [zcmp_le]; omega), zin_01 (Or.inr rfl)]
    · rw [if_neg c, if_pos (by rw [zcmp_le]; omega), zin_01 (Or.inl rfl)]
  · refine h1 _ _ (fun _ _ => rfl) (fun _ => rfl) ?_ (by split <;> omega) (by split <;> omega)
    rw [if_neg (by omega), if_neg (by omega), if_neg (by omega), if_neg (by omega), if_neg (by omega), if_neg (by omega)]
    by_cases c : x = y
    · rw [if_pos c, if_neg (by rw [zcmp_e]; omega), zin_01 (Or.inr rfl)]
    · rw [if_neg c, if_pos (by rw [zcmp_e]; exact c), zin_01 (Or.inl rfl)]
theorem k_reckonAll {Q : zM → Prop} {i j : Int} {D : Nat} {r : Option Int} {κ : Int → Int} (hd : 1 ≤ d) (h24 : 480 ≤ μ a0 24 ∧ μ a0 24 ≤ 3180) (hκ : ∀ q : Int, 0 ≤ q → q < 900 → μ (a0 + 2) (μ a0 24 + q) = κ q) (hS : zS5 (fun s => zMk (κ (98 + 2 * s))) (fun s => zMa (κ (98 + 2 * s)) (κ (98 + 2 * s + 1))) (fun q => μ (a0 + 11) (q + 1)) i j D r) (hD : D ≤ 64) (i0 : 0 ≤ i) (j1 : j ≤ 400)
    (hQ : ∀ ν, (∀ b : Int, b ≠ a0 → b ≠ a0 + 12 → ν b = μ b) → (∀ q : Int, q ≠ 27 → q ≠ 28 → ν a0 q = μ a0 q) → (r = none → ν a0 27 = 1) → (∀ v, r = some v → ν a0 27 = 0 ∧ ν a0 28 = v) → Q ν) : zCv X true l d 0 0 y_M_reckonAll [(13, 0, a0), (0, 0, i), (0, 0, j)] μ Q := by
  refine c_M_reckonAll ?_
  have hbr : (∀ ν : zM, (∀ b : Int, b ≠ a0 → b ≠ a0 + 12 → ν b = μ b) → (∀ q : Int, q ≠ 27 → q ≠ 28 → ν a0 q = μ a0 q) → ν a0 27 = 1 → Q ν) → ∀ (ν : zM) (s t : Int), (∀ b : Int, b ≠ a0 → b ≠ a0 + 12 → ν b = μ b) → (∀ q : Int, q ≠ 27 → ν a0 q = μ a0 q) → ν a0 27 = 1 → zE X true l d 0 0 y_M_reckonAll 10 [some (13, 0, a0), none, some (0, 0, j), some (0, 0, t), some (0, 0, s), none, none] [] ν (zrn Q) := fun hB ν s t n1 n2 n3 => by
    have fin : zE X true l d 0 0 y_M_reckonAll 245 [some (13, 0, a0), none, none, some (0, 0, t), none, none, none] [] ν (zrn Q) := s_M_reckonAll_245 (hB _ (fun b b0 b1 => (zup_ne b0).trans (n1 b b0 b1)) (fun q q0 q1 => (zup_miss (by omega)).trans (n2 q q0)) ((zup_miss (by omega)).trans n3))
    exact s_M_reckonAll_10 (d1 := 0) (by omega) ⟨fun _ => fin, fun _ => ⟨fun _ => fin, fun c => absurd c (by omega)⟩⟩
  refine hS (∀ ν : zM, (∀ b : Int, b ≠ a0 → b ≠ a0 + 12 → ν b = μ b) → (∀ q : Int, q ≠ 27 → q ≠ 28 → ν a0 q = μ a0 q) → ν a0 27 = 1 → Q ν) (fun s t σ => ∀ ν : zM, (∀ b : Int, b ≠ a0 → b ≠ a0 + 12 → ν b = μ b) → (∀ q : Int, q ≠ 27 → ν a0 q = μ a0 q) → ν a0 27 = 0 → (∀ q : Int, 0 ≤ q → q < t → ν (a0 + 12) q = σ q) → zE X true l d 0 0 y_M_reckonAll 10 [some (13, 0, a0), none, some (0, 0, j), some (0, 0, t), some (0, 0, s), none, none] [] ν (zrn Q)) ?_ 0 (fun _ => 0) (by omega) (by omega) (fun e ν n1 n2 n3 => ?_) (fun v e σ' _ h2 ν n1 n2 n3 n4 => ?_) _ (fun b b0 b1 => zup_ne b0) (fun q q0 => zup_miss (by omega)) zup_hit (fun q q0 q1 => by omega)
  · intro s t σ s0 s1 t0 t1
    have ad : ∀ ν : zM, (∀ b : Int, b ≠ a0 → b ≠ a0 + 12 → ν b = μ b) → (∀ q : Int, q ≠ 27 → ν a0 q = μ a0 q) → zw (zw (ν a0 24 + 98) + zw (2 * s)) = μ a0 24 + (98 + 2 * s) ∧ zw (zw (zw (ν a0 24 + 98) + zw (2 * s)) + 1) = μ a0 24 + (98 + 2 * s + 1) ∧ ν (a0 + 2) (μ a0 24 + (98 + 2 * s)) = κ (98 + 2 * s) ∧ ν (a0 + 2) (μ a0 24 + (98 + 2 * s + 1)) = κ (98 + 2 * s + 1) := fun ν n1 n2 => by
      rw [n2 24 (by omega), n1 (a0 + 2) (by omega) (by omega), zw_of (x := μ a0 24 + 98) (by omega) (by omega), zw_of (x := 2 * s) (by omega) (by omega), zw_of (x := μ a0 24 + 98 + 2 * s) (by omega) (by omega), zw_of (by omega) (by omega), ← hκ _ (by omega) (by omega), ← hκ _ (by omega) (by omega)]
      exact ⟨by omega, by omega, rfl, rfl⟩
    refine ⟨fun k0 t2 kk ν n1 n2 n3 n4 => ?_, fun k0 t2 b0 b1 kk ν n1 n2 n3 n4 => ?_, fun k0 k1 t2 b1 b2 kB kk ν n1 n2 n3 n4 => ?_, fun k0 t2 b1 kk ν n1 n2 n3 n4 => ?_, fun k0 t2 s2 s3 k1 k2 ν n1 n2 n3 n4 => ?_⟩
    · obtain ⟨w1, w2, w3, w4⟩ := ad ν n1 n2
      dsimp only at k0 kk
      have o0 : κ (98 + 2 * s) = 0 := by
        unfold zMk at k0
        repeat' split at k0
        all_goals omega
      refine s_M_reckonAll_10 (d1 := 0) (by omega) ⟨fun c => absurd c (by omega), fun _ => ⟨fun c => absurd n3 c, fun _ => ?_⟩⟩
      rw [w2, w1, w3, w4, o0]
      refine ⟨by omega, by omega, fun c => absurd c (by decide), fun _ => ⟨⟨fun c => absurd rfl c, fun _ => trivial⟩, by omega, ?_⟩⟩
      rw [if_neg (by decide), zw_of (x := t + 1) (by omega) (by omega), zw_of (x := s + 1) (by omega) (by omega)]
      have e : zMa (κ (98 + 2 * s)) (κ (98 + 2 * s + 1)) = κ (98 + 2 * s + 1) := by rw [o0]; rfl
      rw [e] at kk
      refine kk _ (fun b b0 b1 => (zup_ne b1).trans (n1 b b0 b1)) (fun q q0 => by rw [zup_ne (by omega)]; exact n2 q q0) (by rw [zup_ne (by omega)]; exact n3) (fun q q0 q1 => ?_)
      rw [zup_val]
      unfold zsu
      split
      · rfl
      · exact n4 q q0 (by omega)
    · obtain ⟨w1, w2, w3, w4⟩ := ad ν n1 n2
      dsimp only at k0 b0 b1 kk
      have o0 : 1 ≤ κ (98 + 2 * s) ∧ κ (98 + 2 * s) < 13 ∧ zMa (κ (98 + 2 * s)) (κ (98 + 2 * s + 1)) = κ (98 + 2 * s) - 1 := by
        unfold zMk at k0
        unfold zMa at b0 b1 ⊢
        by_cases c1 : κ (98 + 2 * s) = 0
        · rw [if_pos c1] at k0; omega
        · rw [if_neg c1] at k0 b0 b1 ⊢
          by_cases c2 : κ (98 + 2 * s) < 20
          · rw [if_pos c2] at b0 b1 ⊢; omega
          · rw [if_neg c2] at k0
            repeat' split at k0
            all_goals omega
      obtain ⟨o1, o2, o3⟩ := o0
      refine s_M_reckonAll_10 (d1 := 0) (by omega) ⟨fun c => absurd c (by omega), fun _ => ⟨fun c => absurd n3 c, fun _ => ?_⟩⟩
      rw [w2, w1, w3, w4]
      refine ⟨by omega, by omega, fun c => absurd c (by omega), fun _ => ⟨⟨fun _ => by omega, fun _ => trivial⟩, by omega, ?_⟩⟩
      rw [if_pos (by omega), zw_of (x := t + 1) (by omega) (by omega), zw_of (x := s + 1) (by omega) (by omega), n1 (a0 + 11) (by omega) (by omega)]
      rw [o3, show κ (98 + 2 * s) - 1 + 1 = κ (98 + 2 * s) by omega] at kk
      refine kk _ (fun b b0 b1 => (zup_ne b1).trans (n1 b b0 b1)) (fun q q0 => by rw [zup_ne (by omega)]; exact n2 q q0) (by rw [zup_ne (by omega)]; exact n3) (fun q q0 q1 => ?_)
      rw [zup_val]
      unfold zsu
      split
      · rfl
      · exact n4 q q0 (by omega)
    · obtain ⟨w1, w2, w3, w4⟩ := ad ν n1 n2
      dsimp only at k0 k1 kB kk
      have o0 : 20 ≤ κ (98 + 2 * s) ∧ κ (98 + 2 * s) < 27 ∧ zMk (κ (98 + 2 * s)) = κ (98 + 2 * s) - 18 := by
        unfold zMk at k0 k1 ⊢
        by_cases c1 : κ (98 + 2 * s) = 0
        · rw [if_pos c1] at k0; omega
        · rw [if_neg c1] at k0 k1 ⊢
          by_cases c2 : κ (98 + 2 * s) < 20
          · rw [if_pos c2] at k0; omega
          · rw [if_neg c2] at k0 k1 ⊢
            by_cases c3 : κ (98 + 2 * s) < 27
            · rw [if_pos c3]; omega
            · rw [if_neg c3] at k0 k1
              repeat' split at k1
              all_goals omega
      obtain ⟨o1, o2, o3⟩ := o0
      have z1 : zw (t + (-1)) = t - 1 := by rw [zw_of (by omega) (by omega)]; omega
      have z2 : zw (t - 1 - 1) = t - 2 := by rw [zw_of (by omega) (by omega)]; omega
      rw [o3] at kB kk
      refine s_M_reckonAll_10 (d1 := 0) (by omega) ⟨fun c => absurd c (by omega), fun _ => ⟨fun c => absurd n3 c, fun _ => ?_⟩⟩
      rw [w2, w1, w3]
      refine ⟨by omega, by omega, fun _ => ⟨fun c => absurd c (by omega), fun _ => ?_⟩, fun c => absurd o1 c⟩
      simp only [z1, z2]
      rw [n4 (t - 2) (by omega) (by omega), n4 (t - 1) (by omega) (by omega), zw_of (x := s + 1) (by omega) (by omega)]
      refine ⟨by omega, by omega, k_M_reckon o1 o2 b1 b2 n3 (fun v ν9 m1 m2 hj v0 v1 => ⟨by omega, fun c => ?_, fun _ => ?_⟩) (fun ν9 m1 m2 m3 hj => ⟨by omega, fun _ => ?_, fun c => ?_⟩)⟩
      · rw [zup_ne (by omega), m2, n3] at c
        exact absurd rfl c
      · rw [zup_hit]
        refine ⟨by omega, k_M_in (fun q1 q2 => ⟨Or.inl (if_pos (by decide)), ?_⟩) (fun q => ⟨Or.inr (if_neg (by decide)), ?_⟩)⟩
        · rw [if_pos (by decide)]
          have e : zin v = some v := by unfold zin; rw [if_pos ⟨q1, q2⟩]
          rw [e] at hj
          refine kk v hj _ (fun b b0 b1 => by rw [zup_ne b0, zup_ne b1, m1 b b0]; exact n1 b b0 b1) (fun q q0 => by rw [zup_miss (by omega), zup_ne (by omega), m2]; exact n2 q q0) zup_hit (fun q q0 q1 => ?_)
          rw [zup_ne (by omega), zup_val]
          unfold zsu
          split
          · rfl
          · rw [m1 _ (by omega)]
            exact n4 q q0 (by omega)
        · rw [if_neg (by decide)]
          have e : zin v = none := by unfold zin; rw [if_neg q]
          rw [e] at hj
          exact hbr (kB hj) _ _ _ (fun b b0 b1 => by rw [zup_ne b0, zup_ne b1, m1 b b0]; exact n1 b b0 b1) (fun q q0 => by rw [zup_miss (by omega), zup_ne (by omega), m2]; exact n2 q q0) zup_hit
      · exact hbr (kB hj) _ _ _ (fun b b0 b1 => by rw [zup_ne b0, zup_ne b1, m1 b b0]; exact n1 b b0 b1) (fun q q0 => by rw [zup_miss (by omega), zup_ne (by omega), m2 q q0]; exact n2 q q0) zup_hit
      · rw [zup_ne (by omega), m3] at c
        exact absurd c (by decide)
    · obtain ⟨w1, w2, w3, w4⟩ := ad ν n1 n2
      dsimp only at k0 kk
      have o0 : κ (98 + 2 * s) = 27 := by
        unfold zMk at k0
        repeat' split at k0
        all_goals omega
      have z1 : zw (t - 1) = t - 1 := zw_of (by omega) (by omega)
      unfold zb9 at b1
      refine s_M_reckonAll_10 (d1 := 0) (by omega) ⟨fun c => absurd c (by omega), fun _ => ⟨fun c => absurd n3 c, fun _ => ?_⟩⟩
      rw [w2, w1, w3, o0]
      refine ⟨by omega, by omega, fun _ => ⟨fun _ => ⟨fun c => absurd rfl c, fun _ => ?_⟩, fun c => absurd (by decide) c⟩, fun c => absurd (by decide) c⟩
      rw [z1, n4 (t - 1) (by omega) (by omega), zwl_id (by omega) (by omega), zw_of (x := s + 1) (by omega) (by omega)]
      refine ⟨by omega, by omega, kk _ (fun b b0 b1 => (zup_ne b1).trans (n1 b b0 b1)) (fun q q0 => by rw [zup_ne (by omega)]; exact n2 q q0) (by rw [zup_ne (by omega)]; exact n3) (fun q q0 q1 => ?_)⟩
      rw [zup_val]
      unfold zsu
      split
      · rfl
      · exact n4 q q0 (by omega)
    · obtain ⟨w1, w2, w3, w4⟩ := ad ν n1 n2
      dsimp only at k0 s2 s3 k1 k2
      have o0 : (κ (98 + 2 * s) = 28 ∧ zMk (κ (98 + 2 * s)) = 11 ∨ κ (98 + 2 * s) = 29 ∧ zMk (κ (98 + 2 * s)) = 10) ∧ zMa (κ (98 + 2 * s)) (κ (98 + 2 * s + 1)) = κ (98 + 2 * s + 1) := by
        have o1 : κ (98 + 2 * s) = 28 ∨ κ (98 + 2 * s) = 29 := by
          unfold zMk at k0
          repeat' split at k0
          all_goals omega
        rcases o1 with o1 | o1 <;> rw [o1] <;> exact ⟨by decide, rfl⟩
      obtain ⟨o1, o2⟩ := o0
      have z1 : zw (t - 1) = t - 1 := zw_of (by omega) (by omega)
      have z2 : zw (t + (-1)) = t - 1 := by rw [zw_of (by omega) (by omega)]; omega
      rw [o2] at s2 s3 k1
      have z5 : (if ¬ κ (98 + 2 * s) = 28 then (1 : Int) else 0) = if zMk (κ (98 + 2 * s)) = 10 then 1 else 0 := by
        rcases o1 with ⟨o1, o3⟩ | ⟨o1, o3⟩ <;> rw [o1, ← o1, o3, o1] <;> decide
      refine s_M_reckonAll_10 (d1 := 0) (by omega) ⟨fun c => absurd c (by omega), fun _ => ⟨fun c => absurd n3 c, fun _ => ?_⟩⟩
      rw [w2, w1, w3, w4]
      refine ⟨by omega, by omega, fun _ => ⟨fun _ => ⟨fun _ => ?_, fun c => absurd c (by omega)⟩, fun c => absurd (by omega) c⟩, fun c => absurd (by omega) c⟩
      rw [z1, z2, z5, n4 (t - 1) (by omega) (by omega), zw_of (x := s + 1) (by omega) (by omega), zcmp_e]
      exact ⟨by omega, fun c => k2 c ν n1 n2 n3 (fun q q0 q1 => n4 q q0 (by omega)), fun c => k1 c ν n1 n2 n3 n4⟩
  · exact hQ ν n1 n2 (fun _ => n3) (fun v hv => by rw [e] at hv; cases hv)
  · have fin : zE X true l d 0 0 y_M_reckonAll 245 [some (13, 0, a0), none, none, some (0, 0, 0 + 1), none, none, none] [] ν (zrn Q) := by
      refine s_M_reckonAll_245 (hQ _ (fun b b0 b1 => (zup_ne b0).trans (n1 b b0 b1)) (fun q q0 q1 => (zup_miss (by omega)).trans (n2 q q0)) (fun q => by rw [e] at q; cases q) (fun v' hv' => ?_))
      rw [e] at hv'
      cases hv'
      refine ⟨(zup_miss (by omega)).trans n3, ?_⟩
      rw [zup_hit, if_neg (by omega), n4 0 (by omega) (by omega)]
      exact h2
    exact s_M_reckonAll_10 (d1 := 0) (by omega) ⟨fun _ => fin, fun c => absurd (by omega) c⟩
end

/-! class and reference: use people person sees ask lasts size force weigh -/
section
variable {X : zX} {l : Launch} {d : Nat} {μ : zM} {Q : Int → zM → Prop}
theorem zne1 {P : Prop} {A : Prop} (h : (0 : Int) ≠ 0) : A := absurd rfl h
theorem k_S_use {x : Int} (hd : 3 ≤ d) (h1 : 0 ≤ x → x < 6 → Q (μ 1 0) (sok (zup μ 1 0 x))) (h0 : ¬ (0 ≤ x ∧ x < 6) → Q (-1) (sref μ (-1) 0)) : zCi X true l d 0 0 y_S_use [(12, 0, 0), (0, 0, x)] μ Q :=
  c_S_use (d1 := 2) (by omega) (k_S_isPlan (fun p q => ⟨fun _ => k_S_allow (h1 p q), fun c => absurd c (by decide)⟩) (fun p => ⟨fun c => absurd rfl c, fun _ => k_S_refuse1 (h0 p)⟩))
theorem k_M_use {x : Int} (hd : 3 ≤ d) (h1 : 0 ≤ x → x < 6 → Q ((zup μ 1320 0 0) 1322 0) (mok (zup (zup μ 1320 0 0) 1322 0 x))) (h0 : ¬ (0 ≤ x ∧ x < 6) → Q (-1) (mref (zup μ 1320 0 0) (-1))) : zCi X true l d 0 0 y_M_use [(13, 0, 1320), (0, 0, x)] μ Q :=
  c_M_use (d1 := 2) (by omega) (k_M_isPlan (by omega) (fun p q => ⟨fun c => absurd c (by decide), fun _ => k_M_change (by omega) (by decide) (by decide) (h1 p q)⟩) (fun p => ⟨fun _ => k_M_telln (by decide) (h0 p), fun c => absurd rfl c⟩))
theorem k_S_people {x : Int} (hd : 3 ≤ d) (hu : 0 ≤ μ 1 0 ∧ μ 1 0 < 6) (h1 : 0 ≤ x → x ≤ 5 → Q (μ (23 + 6 * μ 1 0) 0) (sok (zup μ (23 + 6 * μ 1 0) 0 x))) (h0 : ¬ (0 ≤ x ∧ x ≤ 5) → Q (-1) (sref μ (-1) 0)) : zCi X true l d 0 0 y_S_people [(12, 0, 0), (0, 0, x)] μ Q :=
  c_S_people (d1 := 2) (by omega) (k_S_within (fun p q => ⟨fun _ => k_S_planInUse (by omega) hu (k_S_allow (h1 p q)), fun c => absurd c (by decide)⟩) (fun p => ⟨fun c => absurd rfl c, fun _ => k_S_refuse1 (h0 p)⟩))
theorem k_M_people {x : Int} (hd : 3 ≤ d) (hu : 0 ≤ μ 1322 0 ∧ μ 1322 0 < 6) (h1 : 0 ≤ x → x ≤ 5 → Q ((zup μ 1320 0 0) 1322 (10 + μ 1322 0)) (mok (zup (zup μ 1320 0 0) 1322 (10 + μ 1322 0) x))) (h0 : ¬ (0 ≤ x ∧ x ≤ 5) → Q (-1) (mref (zup μ 1320 0 0) (-1))) : zCi X true l d 0 0 y_M_people [(13, 0, 1320), (0, 0, x)] μ Q := by
  refine c_M_people (d1 := 2) (by omega) (k_M_in (fun p q => ⟨fun c => absurd c (by decide), fun _ => ?_⟩) (fun p => ⟨fun _ => k_M_telln (by decide) (h0 p), fun c => absurd rfl c⟩))
  have e : zw (10 + zup μ 1320 0 0 (1320 + 2) 0) = 10 + μ 1322 0 := by
    rw [zup_ne (by decide)]
    exact zw_of (by have : μ (1320 + 2) 0 = μ 1322 0 := rfl; omega) (by have : μ (1320 + 2) 0 = μ 1322 0 := rfl; omega)
  rw [e]
  exact k_M_change (by omega) (by omega) (by omega) (h1 p q)
theorem k_S_person {x w v : Int} (hd : 3 ≤ d) (h1 : 0 ≤ x → x < 5 → 0 ≤ w → w ≤ 2 → 0 ≤ v → v ≤ (if w = 0 then 7 else 9) → Q (μ (4 + w) x) (sok (zup μ (4 + w) x v))) (h0 : ¬ (0 ≤ x ∧ x < 5 ∧ 0 ≤ w ∧ w ≤ 2 ∧ 0 ≤ v ∧ v ≤ (if w = 0 then 7 else 9)) → Q (-1) (sref μ (-1) 0)) : zCi X true l d 0 0 y_S_person [(12, 0, 0), (0, 0, x), (0, 0, w), (0, 0, v)] μ Q := by
  refine c_S_person (d1 := 2) (by omega) (k_S_isPerson (fun p1 p2 => ⟨fun c => absurd c (by decide), fun _ => k_S_within (fun p3 p4 => ⟨fun c => absurd c (by decide), fun _ => ?_⟩) (fun p => ⟨fun _ => k_S_refuse1 (h0 (by omega)), fun c => absurd rfl c⟩)⟩) (fun p => ⟨fun _ => k_S_refuse1 (h0 (by omega)), fun c => absurd rfl c⟩))
  have e : (if ¬ w = 0 then (9 : Int) else 7) = if w = 0 then 7 else 9 := by by_cases h : w = 0 <;> simp [h]
  rw [e]
  refine k_S_within (fun p5 p6 => ⟨fun _ => ⟨⟨p3, by omega⟩, ⟨p1, p2⟩, ⟨p3, by omega⟩, ⟨p1, p2⟩, ?_⟩, fun c => absurd c (by decide)⟩) (fun p => ⟨fun c => absurd rfl c, fun _ => k_S_refuse1 (h0 (fun q => p ⟨q.2.2.2.2.1, q.2.2.2.2.2⟩))⟩)
  have e2 : (0 : Int) + 1 + 2 + 1 + 1 * w = 4 + w := by omega
  rw [e2]
  exact k_S_allow (h1 p1 p2 p3 p4 p5 p6)
theorem k_M_person {x w v : Int} (hd : 3 ≤ d) (h1 : 0 ≤ x → x < 5 → 0 ≤ w → w ≤ 2 → 0 ≤ v → v ≤ (if w = 0 then 7 else 9) → Q ((zup μ 1320 0 0) 1322 (20 + 3 * x + w)) (mok (zup (zup μ 1320 0 0) 1322 (20 + 3 * x + w) v))) (h0 : ¬ (0 ≤ x ∧ x < 5 ∧ 0 ≤ w ∧ w ≤ 2 ∧ 0 ≤ v ∧ v ≤ (if w = 0 then 7 else 9)) → Q (-1) (mref (zup μ 1320 0 0) (-1))) : zCi X true l d 0 0 y_M_person [(13, 0, 1320), (0, 0, x), (0, 0, w), (0, 0, v)] μ Q := by
  refine c_M_person (d1 := 2) (by omega) (k_M_isPerson (by omega) (fun p1 p2 => ⟨fun c => absurd c (by decide), fun _ => k_M_in (fun p3 p4 => ⟨fun c => absurd c (by decide), fun _ => ?_⟩) (fun p => ⟨fun _ => k_M_telln (by decide) (h0 (by omega)), fun c => absurd rfl c⟩)⟩) (fun p => ⟨fun _ => k_M_telln (by decide) (h0 (by omega)), fun c => absurd rfl c⟩))
  have key : ∀ t : Int, t = (if w = 0 then 7 else 9) → zE X true l d 0 0 y_M_person 40 [some (13, 0, 1320), some (0, 0, x), some (0, 0, w), some (0, 0, v)] [(1, 0, t), (1, 0, 0), (1, 0, v)] (zup μ 1320 0 0) (zri Q) := by
    intro t ht
    subst ht
    refine s_M_person_40 (d1 := 2) (by omega) (k_M_in (fun p5 p6 => ⟨fun _ => ?_, fun c => absurd c (by decide)⟩) (fun p => ⟨fun c => absurd rfl c, fun _ => k_M_telln (by decide) (h0 (fun q => p ⟨q.2.2.2.2.1, q.2.2.2.2.2⟩))⟩))
    rw [zw_of (x := 3 * x) (by omega) (by omega), zw_of (x := 20 + 3 * x) (by omega) (by omega), zw_of (by omega) (by omega)]
    exact k_M_change (by omega) (by omega) (by omega) (h1 p1 p2 p3 p4 p5 p6)
  exact ⟨fun c => key 9 (by rw [if_neg c]), fun c => key 7 (by rw [if_pos c])⟩
theorem k_S_sees {x w v : Int} (hd : 3 ≤ d) (hu : 0 ≤ μ 1 0 ∧ μ 1 0 < 6) (h1 : 0 ≤ x → x < 5 → 0 ≤ w → w ≤ 1 → 0 ≤ v → v ≤ 31 → Q (μ (26 + 6 * μ 1 0 + w) x) (sok (zup μ (26 + 6 * μ 1 0 + w) x v))) (h0 : ¬ (0 ≤ x ∧ x < 5 ∧ 0 ≤ w ∧ w ≤ 1 ∧ 0 ≤ v ∧ v ≤ 31) → Q (-1) (sref μ (-1) 0)) : zCi X true l d 0 0 y_S_sees [(12, 0, 0), (0, 0, x), (0, 0, w), (0, 0, v)] μ Q := by
  refine c_S_sees (d1 := 2) (by omega) (k_S_isPerson (fun p1 p2 => ⟨fun c => absurd c (by decide), fun _ => k_S_within (fun p3 p4 => ⟨fun c => absurd c (by decide), fun _ => k_S_within (fun p5 p6 => ⟨fun _ => k_S_planInUse (by omega) hu ⟨⟨p1, p2⟩, ⟨p1, p2⟩, ?_⟩, fun c => absurd c (by decide)⟩) (fun p => ⟨fun c => absurd rfl c, fun _ => k_S_refuse1 (h0 (by omega))⟩)⟩) (fun p => ⟨fun _ => k_S_refuse1 (h0 (by omega)), fun c => absurd rfl c⟩)⟩) (fun p => ⟨fun _ => k_S_refuse1 (h0 (by omega)), fun c => absurd rfl c⟩))
  have e : (if ¬ w = 0 then (23 + 6 * μ 1 0 + 4 : Int) else 23 + 6 * μ 1 0 + 3) = 26 + 6 * μ 1 0 + w := by split <;> omega
  rw [e]
  exact k_S_allow (h1 p1 p2 p3 p4 p5 p6)
theorem k_M_sees {x w v : Int} (hd : 3 ≤ d) (hu : 0 ≤ μ 1322 0 ∧ μ 1322 0 < 6) (h1 : 0 ≤ x → x < 5 → 0 ≤ w → w ≤ 1 → 0 ≤ v → v ≤ 31 → Q ((zup μ 1320 0 0) 1322 (100 + 10 * μ 1322 0 + 5 * w + x)) (mok (zup (zup μ 1320 0 0) 1322 (100 + 10 * μ 1322 0 + 5 * w + x) v))) (h0 : ¬ (0 ≤ x ∧ x < 5 ∧ 0 ≤ w ∧ w ≤ 1 ∧ 0 ≤ v ∧ v ≤ 31) → Q (-1) (mref (zup μ 1320 0 0) (-1))) : zCi X true l d 0 0 y_M_sees [(13, 0, 1320), (0, 0, x), (0, 0, w), (0, 0, v)] μ Q := by
  refine c_M_sees (d1 := 2) (by omega) (k_M_isPerson (by omega) (fun p1 p2 => ⟨fun c => absurd c (by decide), fun _ => k_M_in (fun p3 p4 => ⟨fun c => absurd c (by decide), fun _ => k_M_in (fun p5 p6 => ⟨fun _ => ?_, fun c => absurd c (by decide)⟩) (fun p => ⟨fun c => absurd rfl c, fun _ => k_M_telln (by decide) (h0 (by omega))⟩)⟩) (fun p => ⟨fun _ => k_M_telln (by decide) (h0 (by omega)), fun c => absurd rfl c⟩)⟩) (fun p => ⟨fun _ => k_M_telln (by decide) (h0 (by omega)), fun c => absurd rfl c⟩))
  have e0 : zup μ 1320 0 0 (1320 + 2) 0 = μ 1322 0 := by rw [zup_ne (by decide)]; rfl
  rw [e0, zw_of (x := 10 * μ 1322 0) (by omega) (by omega), zw_of (x := 100 + 10 * μ 1322 0) (by omega) (by omega), zw_of (x := 5 * w) (by omega) (by omega), zw_of (x := 100 + 10 * μ 1322 0 + 5 * w) (by omega) (by omega), zw_of (by omega) (by omega)]
  exact k_M_change (by omega) (by omega) (by omega) (h1 p1 p2 p3 p4 p5 p6)
theorem k_S_ask {x v : Int} (hd : 3 ≤ d) (hu : 0 ≤ μ 1 0 ∧ μ 1 0 < 6) (h1 : 0 ≤ x → x < 5 → -1 ≤ v → v ≤ 11 → Q (μ (28 + 6 * μ 1 0) x) (sok (zup μ (28 + 6 * μ 1 0) x v))) (h0 : ¬ (0 ≤ x ∧ x < 5 ∧ -1 ≤ v ∧ v ≤ 11) → Q (-1) (sref μ (-1) 0)) : zCi X true l d 0 0 y_S_ask [(12, 0, 0), (0, 0, x), (0, 0, v)] μ Q := by
  refine c_S_ask (d1 := 2) (by omega) (k_S_isPerson (fun p1 p2 => ⟨fun c => absurd c (by decide), fun _ => k_S_within (fun p3 p4 => ⟨fun _ => k_S_planInUse (by omega) hu ⟨⟨p1, p2⟩, ⟨p1, p2⟩, ?_⟩, fun c => absurd c (by decide)⟩) (fun p => ⟨fun c => absurd rfl c, fun _ => k_S_refuse1 (h0 (by omega))⟩)⟩) (fun p => ⟨fun _ => k_S_refuse1 (h0 (by omega)), fun c => absurd rfl c⟩))
  have e : (23 : Int) + 6 * μ 1 0 + 5 = 28 + 6 * μ 1 0 := by omega
  rw [e]
  exact k_S_allow (h1 p1 p2 p3 p4)
theorem k_M_ask {x v : Int} (hd : 3 ≤ d) (hu : 0 ≤ μ 1322 0 ∧ μ 1322 0 < 6) (h1 : 0 ≤ x → x < 5 → -1 ≤ v → v ≤ 11 → Q ((zup μ 1320 0 0) 1322 (160 + 5 * μ 1322 0 + x)) (mok (zup (zup μ 1320 0 0) 1322 (160 + 5 * μ 1322 0 + x) v))) (h0 : ¬ (0 ≤ x ∧ x < 5 ∧ -1 ≤ v ∧ v ≤ 11) → Q (-1) (mref (zup μ 1320 0 0) (-1))) : zCi X true l d 0 0 y_M_ask [(13, 0, 1320), (0, 0, x), (0, 0, v)] μ Q := by
  refine c_M_ask (d1 := 2) (by omega) (k_M_isPerson (by omega) (fun p1 p2 => ⟨fun c => absurd c (by decide), fun _ => k_M_in (fun p3 p4 => ⟨fun _ => ?_, fun c => absurd c (by decide)⟩) (fun p => ⟨fun c => absurd rfl c, fun _ => k_M_telln (by decide) (h0 (by omega))⟩)⟩) (fun p => ⟨fun _ => k_M_telln (by decide) (h0 (by omega)), fun c => absurd rfl c⟩))
  have e0 : zup μ 1320 0 0 (1320 + 2) 0 = μ 1322 0 := by rw [zup_ne (by decide)]; rfl
  rw [e0, zw_of (x := 5 * μ 1322 0) (by omega) (by omega), zw_of (x := 160 + 5 * μ 1322 0) (by omega) (by omega), zw_of (by omega) (by omega)]
  exact k_M_change (by omega) (by omega) (by omega) (h1 p1 p2 p3 p4)
theorem k_S_lasts {x : Int} (hd : 3 ≤ d) (h1 : 1 ≤ x → x ≤ 12 → Q (μ 1 4) (sok (zup μ 1 4 x))) (h0 : ¬ (1 ≤ x ∧ x ≤ 12) → Q (-1) (sref μ (-1) 0)) : zCi X true l d 0 0 y_S_lasts [(12, 0, 0), (0, 0, x)] μ Q :=
  c_S_lasts (d1 := 2) (by omega) (k_S_within (fun p q => ⟨fun _ => k_S_allow (h1 p q), fun c => absurd c (by decide)⟩) (fun p => ⟨fun c => absurd rfl c, fun _ => k_S_refuse1 (h0 p)⟩))
theorem k_M_lasts {x : Int} (hd : 3 ≤ d) (h1 : 1 ≤ x → x ≤ 12 → Q ((zup μ 1320 0 0) 1322 2) (mok (zup (zup μ 1320 0 0) 1322 2 x))) (h0 : ¬ (1 ≤ x ∧ x ≤ 12) → Q (-1) (mref (zup μ 1320 0 0) (-1))) : zCi X true l d 0 0 y_M_lasts [(13, 0, 1320), (0, 0, x)] μ Q :=
  c_M_lasts (d1 := 2) (by omega) (k_M_in (fun p q => ⟨fun c => absurd c (by decide), fun _ => k_M_change (by omega) (by decide) (by decide) (h1 p q)⟩) (fun p => ⟨fun _ => k_M_telln (by decide) (h0 p), fun c => absurd rfl c⟩))
theorem k_S_size {x v : Int} (hd : 3 ≤ d) (h1 : 0 ≤ x → x ≤ 11 → 0 ≤ v → v ≤ 99 → Q (μ 8 x) (sok (zup μ 8 x v))) (h0 : ¬ (0 ≤ x ∧ x ≤ 11 ∧ 0 ≤ v ∧ v ≤ 99) → Q (-1) (sref μ (-1) 0)) : zCi X true l d 0 0 y_S_size [(12, 0, 0), (0, 0, x), (0, 0, v)] μ Q :=
  c_S_size (d1 := 2) (by omega) (k_S_within (fun p1 p2 => ⟨fun c => absurd c (by decide), fun _ => k_S_within (fun p3 p4 => ⟨fun _ => ⟨⟨p1, by omega⟩, ⟨p1, by omega⟩, k_S_allow (h1 p1 p2 p3 p4)⟩, fun c => absurd c (by decide)⟩) (fun p => ⟨fun c => absurd rfl c, fun _ => k_S_refuse1 (h0 (by omega))⟩)⟩) (fun p => ⟨fun _ => k_S_refuse1 (h0 (by omega)), fun c => absurd rfl c⟩))
theorem k_M_size {x v : Int} (hd : 3 ≤ d) (h1 : 0 ≤ x → x ≤ 11 → 0 ≤ v → v ≤ 99 → Q ((zup μ 1320 0 0) 1322 (200 + x)) (mok (zup (zup μ 1320 0 0) 1322 (200 + x) v))) (h0 : ¬ (0 ≤ x ∧ x ≤ 11 ∧ 0 ≤ v ∧ v ≤ 99) → Q (-1) (mref (zup μ 1320 0 0) (-1))) : zCi X true l d 0 0 y_M_size [(13, 0, 1320), (0, 0, x), (0, 0, v)] μ Q := by
  refine c_M_size (d1 := 2) (by omega) (k_M_isGlance (by omega) (fun p1 p2 => ⟨fun c => absurd c (by decide), fun _ => k_M_in (fun p3 p4 => ⟨fun c => absurd c (by decide), fun _ => ?_⟩) (fun p => ⟨fun _ => k_M_telln (by decide) (h0 (by omega)), fun c => absurd rfl c⟩)⟩) (fun p => ⟨fun _ => k_M_telln (by decide) (h0 (by omega)), fun c => absurd rfl c⟩))
  rw [zw_of (by omega) (by omega)]
  exact k_M_change (by omega) (by omega) (by omega) (h1 p1 (by omega) p3 p4)
theorem k_M_isLaw {a : Int} (hd : 2 ≤ d) (hb : 0 ≤ μ 1322 3 ∧ μ 1322 3 ≤ 4) (h1 : 0 ≤ a → a < μ 1322 3 → Q 1 μ) (h0 : ¬ (0 ≤ a ∧ a < μ 1322 3) → Q 0 μ) : zCi X true l d 0 0 y_M_isLaw [(13, 0, 1320), (0, 0, a)] μ Q := by
  refine c_M_isLaw (d1 := 1) (by omega) ?_
  have e : zwl (μ (1320 + 2) 3 - 1) = μ 1322 3 - 1 := zwl_of (by have : μ (1320 + 2) 3 = μ 1322 3 := rfl; omega) (by have : μ (1320 + 2) 3 = μ 1322 3 := rfl; omega)
  rw [e]
  exact k_M_in (fun p q => ⟨Or.inr rfl, h1 p (by omega)⟩) (fun p => ⟨Or.inl rfl, h0 (by omega)⟩)
theorem k_S_force {x : Int} (hd : 3 ≤ d) (hb : μ 1 7 ≤ 4) (h1 : -1 ≤ x → x < μ 1 7 ∨ x = -1 → Q (μ 1 9) (sok (zup μ 1 9 x))) (h0 : ¬ (-1 ≤ x ∧ (x < μ 1 7 ∨ x = -1)) → Q (-2) (sref μ (-2) 1)) : zCi X true l d 0 0 y_S_force [(12, 0, 0), (0, 0, x)] μ Q :=
  c_S_force (d1 := 2) (by omega) ⟨fun c => k_S_allow (h1 (by omega) (by omega)), fun c => k_S_isLaw (fun p q r => ⟨fun _ => k_S_allow (h1 (by omega) (by omega)), fun c => absurd c (by decide)⟩) (fun p => ⟨fun c => absurd rfl c, fun _ => k_S_refuse2 (h0 (by omega))⟩)⟩
theorem k_M_force {x : Int} (hd : 3 ≤ d) (hb : 0 ≤ μ 1322 3 ∧ μ 1322 3 ≤ 4) (h1 : -1 ≤ x → x < μ 1322 3 ∨ x = -1 → Q ((zup μ 1320 0 0) 1322 1) (mok (zup (zup μ 1320 0 0) 1322 1 x))) (h0 : ¬ (-1 ≤ x ∧ (x < μ 1322 3 ∨ x = -1)) → Q (-2) (mref (zup μ 1320 0 0) (-2))) : zCi X true l d 0 0 y_M_force [(13, 0, 1320), (0, 0, x)] μ Q := by
  have e0 : zup μ 1320 0 0 1322 = μ 1322 := zup_ne (by decide)
  refine c_M_force (d1 := 2) (by omega) ⟨fun c => k_M_change (by omega) (by decide) (by decide) (h1 (by omega) (by omega)), fun c => k_M_isLaw (by omega) (by rw [e0]; exact hb) (fun p q => ⟨fun c => absurd c (by decide), fun _ => k_M_change (by omega) (by decide) (by decide) (h1 (by omega) (by rw [e0] at q; omega))⟩) (fun p => ⟨fun _ => k_M_telln (by decide) (h0 (by rw [e0] at p; omega)), fun c => absurd rfl c⟩)⟩
theorem k_S_weigh {x v : Int} (hd : 3 ≤ d) (hb : μ 1 7 ≤ 4) (h1 : 0 ≤ v → v ≤ 100 → 0 ≤ x → x < μ 1 7 → Q (μ 10 x) (sok (zup μ 10 x v))) (h2 : 0 ≤ v → v ≤ 100 → ¬ (0 ≤ x ∧ x < μ 1 7) → Q (-2) (sref μ (-2) 1)) (h0 : ¬ (0 ≤ v ∧ v ≤ 100) → Q (-1) (sref μ (-1) 0)) : zCi X true l d 0 0 y_S_weigh [(12, 0, 0), (0, 0, x), (0, 0, v)] μ Q :=
  c_S_weigh (d1 := 2) (by omega) (k_S_within (fun p q => ⟨fun _ => k_S_isLaw (fun p1 p2 p3 => ⟨fun _ => ⟨⟨p1, p3⟩, ⟨p1, p3⟩, k_S_allow (h1 p q p1 p2)⟩, fun c => absurd c (by decide)⟩) (fun p1 => ⟨fun c => absurd rfl c, fun _ => k_S_refuse2 (h2 p q (by omega))⟩), fun c => absurd c (by decide)⟩) (fun p => ⟨fun c => absurd rfl c, fun _ => k_S_refuse1 (h0 p)⟩))
theorem k_M_weigh {x v : Int} (hd : 3 ≤ d) (hb : 0 ≤ μ 1322 3 ∧ μ 1322 3 ≤ 4) (h1 : 0 ≤ v → v ≤ 100 → 0 ≤ x → x < μ 1322 3 → Q ((zup μ 1320 0 0) 1322 (212 + x)) (mok (zup (zup μ 1320 0 0) 1322 (212 + x) v))) (h2 : 0 ≤ v → v ≤ 100 → ¬ (0 ≤ x ∧ x < μ 1322 3) → Q (-2) (mref (zup μ 1320 0 0) (-2))) (h0 : ¬ (0 ≤ v ∧ v ≤ 100) → Q (-1) (mref (zup μ 1320 0 0) (-1))) : zCi X true l d 0 0 y_M_weigh [(13, 0, 1320), (0, 0, x), (0, 0, v)] μ Q := by
  have e0 : zup μ 1320 0 0 1322 = μ 1322 := zup_ne (by decide)
  refine c_M_weigh (d1 := 2) (by omega) (k_M_in (fun p q => ⟨fun _ => k_M_isLaw (by omega) (by rw [e0]; exact hb) (fun p1 p2 => ⟨fun c => absurd c (by decide), fun _ => ?_⟩) (fun p1 => ⟨fun _ => k_M_telln (by decide) (h2 p q (by rw [e0] at p1; exact p1)), fun c => absurd rfl c⟩), fun c => absurd c (by decide)⟩) (fun p => ⟨fun c => absurd rfl c, fun _ => k_M_telln (by decide) (h0 p)⟩))
  rw [e0] at p2
  rw [zw_of (by omega) (by omega)]
  exact k_M_change (by omega) (by omega) (by omega) (h1 p q p1 p2)
end

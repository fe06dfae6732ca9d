/-! law: the reference's reader, its pile -/
def zFm (μ ν : zM) : Prop := (∀ b : Int, b ≠ 1320 → b ≠ 1327 → b ≠ 1328 → b ≠ 1329 → b ≠ 1330 → ν b = μ b) ∧ ∀ j : Int, ¬ ((8 ≤ j ∧ j ≤ 11) ∨ j = 13) → j ≠ 16 → j ≠ 19 → j ≠ 22 → j ≠ 23 → ν 1320 j = μ 1320 j
def zFw (μ ν : zM) : Prop := (∀ b : Int, b ≠ 1320 → b ≠ 1327 → b ≠ 1328 → b ≠ 1329 → b ≠ 1330 → ν b = μ b) ∧ ∀ j : Int, ¬ (8 ≤ j ∧ j ≤ 13) → j ≠ 16 → j ≠ 19 → j ≠ 22 → j ≠ 23 → ν 1320 j = μ 1320 j
theorem zFm.refl {μ : zM} : zFm μ μ := ⟨fun _ _ _ _ _ _ => rfl, fun _ _ _ _ _ _ => rfl⟩
theorem zFm.trans {μ ν ρ : zM} (h : zFm μ ν) (k : zFm ν ρ) : zFm μ ρ := ⟨fun b h1 h2 h3 h4 h5 => (k.1 b h1 h2 h3 h4 h5).trans (h.1 b h1 h2 h3 h4 h5), fun j h1 h2 h3 h4 h5 => (k.2 j h1 h2 h3 h4 h5).trans (h.2 j h1 h2 h3 h4 h5)⟩
theorem zFm.w {μ ν : zM} (h : zFm μ ν) : zFw μ ν := ⟨h.1, fun j h1 h2 h3 h4 h5 => h.2 j (by omega) h2 h3 h4 h5⟩
def zSm (μ0 μ : zM) (T : Int → Int) (L q c h dp lv : Nat) (O A P B : Int → Int) : Prop := zFm μ0 μ ∧ zTm μ T L q ∧ μ 1320 13 = 0 ∧ μ 1320 16 = c ∧ μ 1320 22 = h ∧ μ 1320 23 = dp ∧ μ 1320 19 = lv ∧ μ 1327 = O ∧ μ 1328 = A ∧ μ 1329 = P ∧ μ 1330 = B
/-- bad, at q -/
def zFl9 (μ0 μ : zM) (q : Nat) : Prop := zFw μ0 μ ∧ μ 1320 13 = 1 ∧ μ 1320 12 = q ∧ ∃ c h : Nat, μ 1320 16 = c ∧ μ 1320 22 = h ∧ c + h ≤ 400 ∧ ∀ j : Int, 0 ≤ j → j < h → 0 ≤ μ 1330 j ∧ μ 1330 j < 400
def zbi (op : Int) : Int := if op < 30 then (if op = 29 then 1 else if op = 28 then 2 else if op = 27 then 3 else if op < 24 then (if op < 22 then 5 else 6) else 4) else 0
def zpp (op b : Int) (x : (Int → Int) × (Int → Int) × Nat) : (Int → Int) × (Int → Int) × Nat := if op = 28 ∨ op = 29 then (x.1, zsu x.2.1 b x.2.2, x.2.2) else (zsu x.1 x.2.2 op, zsu x.2.1 x.2.2 0, x.2.2 + 1)
def zVp (P B : Int → Int) : Nat → Nat → ((Int → Int) × (Int → Int) × Nat) → (Int → Int) × (Int → Int) × Nat
  | 0, _, x => x
  | m + 1, h, x => zpp (P h) (B h) (zVp P B m (h + 1) x)
theorem zVp_top {P B : Int → Int} : ∀ (m h : Nat) (x : (Int → Int) × (Int → Int) × Nat), zVp P B (m + 1) h x = zVp P B m h (zpp (P ((h + m : Nat) : Int)) (B ((h + m : Nat) : Int)) x)
  | 0, h, x => rfl
  | m + 1, h, x => by
    show zpp (P h) (B h) (zVp P B (m + 1) (h + 1) x) = zpp (P h) (B h) (zVp P B m (h + 1) _)
    rw [zVp_top m (h + 1) x, show h + 1 + m = h + (m + 1) by omega]
theorem zVp_congr {P B P' B' : Int → Int} {x : (Int → Int) × (Int → Int) × Nat} : ∀ (m h : Nat), (∀ j : Int, (h : Int) ≤ j → j < ((h + m : Nat) : Int) → P' j = P j ∧ B' j = B j) → zVp P' B' m h x = zVp P B m h x
  | 0, h, e => rfl
  | m + 1, h, e => by
    show zpp (P' h) (B' h) (zVp P' B' m (h + 1) x) = zpp (P h) (B h) (zVp P B m (h + 1) x)
    rw [zVp_congr m (h + 1) (fun j h1 h2 => e j (by omega) (by omega)), (e h (by omega) (by omega)).1, (e h (by omega) (by omega)).2]
theorem zVp_c {P B : Int → Int} {x : (Int → Int) × (Int → Int) × Nat} : ∀ (m h : Nat), x.2.2 ≤ (zVp P B m h x).2.2 ∧ (zVp P B m h x).2.2 ≤ x.2.2 + m
  | 0, h => ⟨Nat.le_refl _, Nat.le_refl _⟩
  | m + 1, h => by
    have ih := zVp_c (P := P) (B := B) (x := x) m (h + 1)
    show x.2.2 ≤ (zpp (P h) (B h) (zVp P B m (h + 1) x)).2.2 ∧ (zpp (P h) (B h) (zVp P B m (h + 1) x)).2.2 ≤ x.2.2 + (m + 1)
    unfold zpp
    split
    · exact ⟨ih.1, by show (zVp P B m (h + 1) x).2.2 ≤ _; omega⟩
    · exact ⟨by show _ ≤ (zVp P B m (h + 1) x).2.2 + 1; omega, by show (zVp P B m (h + 1) x).2.2 + 1 ≤ _; omega⟩
def zinn (P : Int → Int) : Nat → Int
  | 0 => -1
  | k + 1 => if P k < 30 then zinn P k else P k
def zcom (P : Int → Int) : Nat → Bool
  | 0 => false
  | k + 1 => if 20 ≤ P k ∧ P k ≤ 23 then zcom P k else decide (24 ≤ P k ∧ P k ≤ 26)
section
variable {X : zX} {l : Launch} {d : Nat} {μ0 μ : zM} {T : Int → Int} {L q c h dp lv : Nat} {O A P B : Int → Int}
theorem zup_fn {a i v : Int} : zup μ a i v a = zsu (μ a) i v := by
  funext j
  unfold zup zsu
  by_cases e : j = i
  · rw [if_pos ⟨rfl, e⟩, if_pos e]
  · rw [if_neg (fun z => e z.2), if_neg e]
theorem zFm.up {ν : zM} {a i v : Int} (k : zFm μ0 ν) (ha : a = 1327 ∨ a = 1328 ∨ a = 1329 ∨ a = 1330 ∨ (a = 1320 ∧ (i = 13 ∨ i = 16 ∨ i = 19 ∨ i = 22 ∨ i = 23))) : zFm μ0 (zup ν a i v) :=
  ⟨fun b h1 h2 h3 h4 h5 => by rw [zup_ne (by omega)]; exact k.1 b h1 h2 h3 h4 h5, fun j h1 h2 h3 h4 h5 => by rw [zup_miss (by omega)]; exact k.2 j h1 h2 h3 h4 h5⟩
theorem zFw.up {ν : zM} {a i v : Int} (k : zFw μ0 ν) (ha : a = 1327 ∨ a = 1328 ∨ a = 1329 ∨ a = 1330 ∨ (a = 1320 ∧ (i = 12 ∨ i = 13 ∨ i = 16 ∨ i = 19 ∨ i = 22 ∨ i = 23))) : zFw μ0 (zup ν a i v) :=
  ⟨fun b h1 h2 h3 h4 h5 => by rw [zup_ne (by omega)]; exact k.1 b h1 h2 h3 h4 h5, fun j h1 h2 h3 h4 h5 => by rw [zup_miss (by omega)]; exact k.2 j h1 h2 h3 h4 h5⟩
theorem zTm.up {ν : zM} {a i v : Int} (k : zTm ν T L q) (ha : a = 1327 ∨ a = 1328 ∨ a = 1329 ∨ a = 1330 ∨ (a = 1320 ∧ (i = 12 ∨ i = 13 ∨ i = 16 ∨ i = 19 ∨ i = 22 ∨ i = 23))) : zTm (zup ν a i v) T L q :=
  k.keep (zup_ne (by omega)) (fun j h1 h2 => zup_miss (by omega))
theorem kS_push {op b : Int} {Q : zM → Prop} (k : zSm μ0 μ T L q c h dp lv O A P B) (h4 : h < 400) (hQ : ∀ ν, zSm μ0 ν T L q c (h + 1) dp lv O A (zsu P h op) (zsu B h b) → Q ν) : zCv X true l d 0 0 y_M_push [(13, 0, 1320), (0, 0, op), (0, 0, b)] μ Q := by
  obtain ⟨k1, k2, k3, k4, k5, k6, k7, k8, k9, k10, k11⟩ := k
  refine c_M_push (a0 := 1320) ?_
  simp only [Int.reduceAdd]
  have e1 : zup μ 1329 h op 1320 22 = h := by rw [zup_ne (by decide)]; exact k5
  have e2 : zup (zup μ 1329 h op) 1330 h b 1320 22 = h := by rw [zup_ne (by decide)]; exact e1
  rw [k5, e1, e2, zw_of (by omega) (by omega)]
  refine ⟨by omega, by omega, hQ _ ⟨((k1.up (by simp)).up (by simp)).up (by simp), ((k2.up (by simp)).up (by simp)).up (by simp), ?_, ?_, ?_, ?_, ?_, ?_, ?_, ?_, ?_⟩⟩
  · rw [zup_miss (by decide), zup_ne (by decide), zup_ne (by decide)]; exact k3
  · rw [zup_miss (by decide), zup_ne (by decide), zup_ne (by decide)]; exact k4
  · rw [zup_hit]; rfl
  · rw [zup_miss (by decide), zup_ne (by decide), zup_ne (by decide)]; exact k6
  · rw [zup_miss (by decide), zup_ne (by decide), zup_ne (by decide)]; exact k7
  · rw [zup_ne (by decide), zup_ne (by decide), zup_ne (by decide)]; exact k8
  · rw [zup_ne (by decide), zup_ne (by decide), zup_ne (by decide)]; exact k9
  · rw [zup_ne (by decide), zup_ne (by decide), zup_fn, k10]
  · rw [zup_ne (by decide), zup_fn, zup_ne (by decide), k11]
theorem kS_emit {op b : Int} {Q : zM → Prop} (k : zSm μ0 μ T L q c h dp lv O A P B) (h4 : c < 400) (hQ : ∀ ν, zSm μ0 ν T L q (c + 1) h dp lv (zsu O c op) (zsu A c b) P B → Q ν) : zCv X true l d 0 0 y_M_emit [(13, 0, 1320), (0, 0, op), (0, 0, b)] μ Q := by
  obtain ⟨k1, k2, k3, k4, k5, k6, k7, k8, k9, k10, k11⟩ := k
  refine c_M_emit (a0 := 1320) ?_
  simp only [Int.reduceAdd]
  have e1 : zup μ 1327 c op 1320 16 = c := by rw [zup_ne (by decide)]; exact k4
  have e2 : zup (zup μ 1327 c op) 1328 c b 1320 16 = c := by rw [zup_ne (by decide)]; exact e1
  rw [k4, e1, e2, zw_of (by omega) (by omega)]
  refine ⟨by omega, by omega, hQ _ ⟨((k1.up (by simp)).up (by simp)).up (by simp), ((k2.up (by simp)).up (by simp)).up (by simp), ?_, ?_, ?_, ?_, ?_, ?_, ?_, ?_, ?_⟩⟩
  · rw [zup_miss (by decide), zup_ne (by decide), zup_ne (by decide)]; exact k3
  · rw [zup_hit]; rfl
  · rw [zup_miss (by decide), zup_ne (by decide), zup_ne (by decide)]; exact k5
  · rw [zup_miss (by decide), zup_ne (by decide), zup_ne (by decide)]; exact k6
  · rw [zup_miss (by decide), zup_ne (by decide), zup_ne (by decide)]; exact k7
  · rw [zup_ne (by decide), zup_ne (by decide), zup_fn, k8]
  · rw [zup_ne (by decide), zup_fn, zup_ne (by decide), k9]
  · rw [zup_ne (by decide), zup_ne (by decide), zup_ne (by decide)]; exact k10
  · rw [zup_ne (by decide), zup_ne (by decide), zup_ne (by decide)]; exact k11
theorem kS_next {Q : zM → Prop} (hd : 1 ≤ d) (k : zSm μ0 μ T L q c h dp lv O A P B) (hQ : ∀ ν, zSm μ0 ν T L (znx T L q) c h dp lv O A P B → Q ν) : zCv X true l d 0 0 y_M_next_V [(13, 0, 1320)] μ Q := by
  obtain ⟨k1, k2, k3, k4, k5, k6, k7, k8, k9, k10, k11⟩ := k
  refine k_M_next hd k2 (fun ν n1 n2 n3 => hQ ν ⟨⟨fun b h1 h2 h3 h4 h5 => by rw [n1 b h1]; exact k1.1 b h1 h2 h3 h4 h5, fun j h1 h2 h3 h4 h5 => by rw [n2 j (by omega)]; exact k1.2 j h1 h2 h3 h4 h5⟩, n3, ?_, ?_, ?_, ?_, ?_, ?_, ?_, ?_, ?_⟩)
  · rw [n2 13 (by decide)]; exact k3
  · rw [n2 16 (by decide)]; exact k4
  · rw [n2 22 (by decide)]; exact k5
  · rw [n2 23 (by decide)]; exact k6
  · rw [n2 19 (by decide)]; exact k7
  · rw [n1 1327 (by decide)]; exact k8
  · rw [n1 1328 (by decide)]; exact k9
  · rw [n1 1329 (by decide)]; exact k10
  · rw [n1 1330 (by decide)]; exact k11
/-- what the pile must be, that it may be settled -/
def zVd (c h : Nat) (B : Int → Int) : Prop := c + h ≤ 400 ∧ ∀ j : Int, 0 ≤ j → j < h → 0 ≤ B j ∧ B j < 400
theorem kS_must {x : Int} {Q : zM → Prop} (hd : 2 ≤ d) (k : zSm μ0 μ T L q c h dp lv O A P B) (v : zVd c h B) (h1 : x ≠ 0 → ∀ ν, zSm μ0 ν T L (znx T L q) c h dp lv O A P B → Q ν) (h0 : x = 0 → ∀ ν, zFl9 μ0 ν q → Q ν) : zCv X true l d 0 0 y_M_must [(13, 0, 1320), (0, 0, x)] μ Q := by
  have k' := k
  obtain ⟨k1, k2, k3, k4, k5, k6, k7, k8, k9, k10, k11⟩ := k'
  refine c_M_must (a0 := 1320) (d1 := d - 1) (by omega) ⟨fun e => absurd k3 e, fun _ => ⟨fun e => ⟨fun e2 => absurd k3 e2, fun _ => kS_next (by omega) k (h1 e)⟩, fun e => ?_⟩⟩
  have e8 : zup μ 1320 13 1 1320 8 = q := by rw [zup_miss (by decide)]; exact k2.2.2.1
  rw [e8]
  have e13 : zup (zup μ 1320 13 1) 1320 12 q 1320 13 = 1 := by rw [zup_miss (by decide), zup_hit]
  refine ⟨fun _ => h0 e _ ⟨(k1.w.up (by simp)).up (by simp), e13, zup_hit, c, h, ?_, ?_, v.1, ?_⟩, fun z => by rw [e13] at z; exact absurd z (by decide)⟩
  · rw [zup_miss (by decide), zup_miss (by decide)]; exact k4
  · rw [zup_miss (by decide), zup_miss (by decide)]; exact k5
  · rw [zup_ne (by decide), zup_ne (by decide), k11]; exact v.2
theorem k_M_binds {op : Int} {Q : Int → zM → Prop} (hQ : Q (zbi op) μ) : zCi X true l d 0 0 y_M_binds [(0, 0, op)] μ Q := by
  unfold zbi at hQ
  refine c_M_binds ⟨fun a => ?_, fun a => ?_⟩
  · rw [if_pos a] at hQ
    refine ⟨fun b => ?_, fun b => by rw [if_pos b] at hQ; exact hQ⟩
    rw [if_neg b] at hQ
    refine ⟨fun b => ?_, fun b => by rw [if_pos b] at hQ; exact hQ⟩
    rw [if_neg b] at hQ
    refine ⟨fun b => ?_, fun b => by rw [if_pos b] at hQ; exact hQ⟩
    rw [if_neg b] at hQ
    exact ⟨fun b => by rw [if_pos b] at hQ; exact hQ, fun b => by rw [if_neg b] at hQ; exact hQ⟩
  · rw [if_neg a] at hQ; exact hQ
theorem k_M_inner {Q : Int → zM → Prop} (h5 : μ 1320 22 = h) (h4 : h ≤ 400) (hQ : Q (zinn (μ 1329) h) μ) : zCi X true l d 0 0 y_M_inner [(13, 0, 1320)] μ Q := by
  refine c_M_inner (a0 := 1320) ?_
  have lp : ∀ m i : Nat, i + m = h → zE X true l d 0 0 y_M_inner 4 [some (13, 0, 1320), some (0, 0, zinn (μ 1329) i), some (0, 0, (i : Int))] [] μ (zri Q) := by
    intro m
    induction m with
    | zero =>
      intro i hi
      have e : i = h := by omega
      subst e
      exact s_M_inner_4 ⟨fun _ => hQ, fun z => absurd (by rw [h5]; omega) z⟩
    | succ m ih =>
      intro i hi
      refine s_M_inner_4 ⟨fun z => absurd z (by rw [h5]; omega), fun _ => ⟨by omega, ⟨fun _ => trivial, fun _ => by omega⟩, ?_⟩⟩
      simp only [Int.reduceAdd]
      rw [zw_of (by omega) (by omega)]
      exact ih (i + 1) (by omega)
  exact lp h 0 (by omega)
theorem k_M_isCompared {Q : Int → zM → Prop} (hd : 1 ≤ d) (h5 : μ 1320 22 = h) (h4 : h ≤ 400) (hQ : Q (if zcom (μ 1329) h then 1 else 0) μ) : zCi X true l d 0 0 y_M_isCompared [(13, 0, 1320)] μ Q := by
  refine c_M_isCompared (a0 := 1320) ?_
  rw [h5, zw_of (by omega) (by omega)]
  have lp : ∀ i : Nat, i ≤ h → zcom (μ 1329) i = zcom (μ 1329) h → zE X true l d 0 0 y_M_isCompared 7 [some (13, 0, 1320), some (0, 0, (i : Int) - 1)] [] μ (zri Q) := by
    intro i
    induction i with
    | zero =>
      intro hi e
      refine s_M_isCompared_7 (d1 := d - 1) (by omega) ⟨fun _ => ?_, fun z => absurd (by omega) z⟩
      refine s_M_isCompared_36 (d1 := d - 1) (by omega) ⟨fun _ => ?_, fun z => absurd (by omega) z⟩
      rw [← e] at hQ
      exact hQ
    | succ i ih =>
      intro hi e
      have ee : ((i + 1 : Nat) : Int) - 1 = i := by omega
      rw [ee]
      have st : ¬ (20 ≤ μ 1329 i ∧ μ 1329 i ≤ 23) → zE X true l d 0 0 y_M_isCompared 36 [some (13, 0, 1320), some (0, 0, (i : Int))] [] μ (zri Q) := fun n => by
        have e2 : zcom (μ 1329) (i + 1) = decide (24 ≤ μ 1329 i ∧ μ 1329 i ≤ 26) := by
          show (if 20 ≤ μ 1329 i ∧ μ 1329 i ≤ 23 then zcom (μ 1329) i else decide (24 ≤ μ 1329 i ∧ μ 1329 i ≤ 26)) = _
          rw [if_neg n]
        rw [← e, e2] at hQ
        refine s_M_isCompared_36 (d1 := d - 1) (by omega) ⟨fun z => absurd z (by omega), fun _ => ⟨by omega, ?_⟩⟩
        simp only [Int.reduceAdd]
        refine k_M_in (fun a b => ⟨fun z => absurd z (by decide), fun _ => ?_⟩) (fun a => ⟨fun _ => ?_, fun z => absurd rfl z⟩)
        · rw [decide_eq_true ⟨a, b⟩] at hQ; exact hQ
        · rw [decide_eq_false a] at hQ; exact hQ
      refine s_M_isCompared_7 (d1 := d - 1) (by omega) ⟨fun z => absurd z (by omega), fun _ => ⟨by omega, ?_⟩⟩
      simp only [Int.reduceAdd]
      refine k_M_in (fun a b => ⟨fun z => absurd z (by decide), fun _ => ?_⟩) (fun a => ⟨fun _ => st a, fun z => absurd rfl z⟩)
      rw [zw_of (by omega) (by omega)]
      refine ih (by omega) (Eq.trans ?_ e)
      show _ = (if 20 ≤ μ 1329 i ∧ μ 1329 i ≤ 23 then zcom (μ 1329) i else decide (24 ≤ μ 1329 i ∧ μ 1329 i ≤ 26))
      rw [if_pos ⟨a, b⟩]
  exact lp h (Nat.le_refl _) rfl
end

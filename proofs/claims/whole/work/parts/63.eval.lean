/-! what a piece of code tells, said once for both: k the kinds (0 number, 1 word, 2 .. 8 joined, 9 not, 10 or, 11 and), ab what they are about, F the facts -/
def zin (v : Int) : Option Int := if -1000000000 ≤ v ∧ v ≤ 1000000000 then some v else none
def zjn (k x y : Int) : Option Int :=
  if k = 2 then zin (x + y) else if k = 3 then zin (x - y) else if k = 4 then zin (x * y) else if k = 5 then (if y = 0 then none else zin (x.tdiv y)) else if k = 6 then some (if x < y then 1 else 0) else if k = 7 then some (if y < x then 1 else 0) else some (if x = y then 1 else 0)
def zb9 (x : Int) : Prop := -1000000000 ≤ x ∧ x ≤ 1000000000
def zsu (σ : Int → Int) (i v : Int) : Int → Int := fun q => if q = i then v else σ q
/-- P holds of a state if it holds of the next, for steps at i .. j; B: broken -/
def zCl5 (k ab F : Int → Int) (i j : Int) (B : Prop) (P : Int → Int → (Int → Int) → Prop) : Prop := ∀ (s t : Int) (σ : Int → Int), i ≤ s → s < j → 0 ≤ t → t ≤ 64 →
  (k s = 0 → t < 64 → P (s + 1) (t + 1) (zsu σ t (ab s)) → P s t σ) ∧
  (k s = 1 → t < 64 → 0 ≤ ab s → ab s < 12 → P (s + 1) (t + 1) (zsu σ t (F (ab s))) → P s t σ) ∧
  (2 ≤ k s → k s < 9 → 2 ≤ t → zb9 (σ (t - 2)) → zb9 (σ (t - 1)) → (zjn (k s) (σ (t - 2)) (σ (t - 1)) = none → B) → (∀ v, zjn (k s) (σ (t - 2)) (σ (t - 1)) = some v → P (s + 1) (t - 1) (zsu σ (t - 2) v)) → P s t σ) ∧
  (k s = 9 → 1 ≤ t → zb9 (σ (t - 1)) → P (s + 1) t (zsu σ (t - 1) (1 - σ (t - 1))) → P s t σ) ∧
  (k s = 10 ∨ k s = 11 → 1 ≤ t → s < ab s → ab s ≤ j → (σ (t - 1) = (if k s = 10 then 1 else 0) → P (ab s) t σ) → (σ (t - 1) ≠ (if k s = 10 then 1 else 0) → P (s + 1) (t - 1) σ) → P s t σ)
/-- the steps i .. j tell r, with D places of the stack -/
def zS5 (k ab F : Int → Int) (i j : Int) (D : Nat) (r : Option Int) : Prop := ∀ B P, zCl5 k ab F i j B P → ∀ (t : Int) (σ : Int → Int), 0 ≤ t → t + D ≤ 64 → (r = none → B) → (∀ v, r = some v → ∀ σ' : Int → Int, (∀ q : Int, 0 ≤ q → q < t → σ' q = σ q) → σ' t = v → P j (t + 1) σ') → P i t σ
theorem zdivl_t {x y : Int} (hx : zb9 x) (hy : zb9 y) : zdivl x y = x.tdiv y := by
  unfold zb9 at hx hy
  unfold zdivl
  rw [Int64.toInt_div, Int64.toInt_ofInt_of_le (by omega) (by omega), Int64.toInt_ofInt_of_le (by omega) (by omega)]
  have h := Int.natAbs_tdiv_le_natAbs x y
  rw [Int.bmod_eq_of_le] <;> omega
theorem zin_some {v w : Int} (h : zin v = some w) : zb9 w := by
  unfold zin at h
  split at h
  · cases h; assumption
  · cases h
theorem zjn_b9 {k x y v : Int} (h : zjn k x y = some v) : zb9 v := by
  unfold zjn at h
  repeat' split at h
  all_goals first | exact zin_some h | (cases h; done) | (cases h; unfold zb9; omega)
theorem zcmp_e {x y : Int} : zcmp x y = 0 ↔ x = y := by
  unfold zcmp
  constructor
  · intro q
    split at q
    · omega
    · split at q <;> omega
  · intro q
    rw [if_neg (by omega), if_pos q]
section
variable {X : zX} {l : Launch} {d : Nat} {μ : zM} {Q : Int → zM → Prop}
theorem k_joined {k x y : Int} (hk : 2 ≤ k) (hk2 : k < 9) (hx : zb9 x) (hy : zb9 y) (hQ : Q ((zjn k x y).getD 2000000000) μ) : zCl X true l d 0 0 y_Scene_joined [(0, 0, k), (1, 0, x), (1, 0, y)] μ Q := by
  have hxy : -1000000000000000000 ≤ x * y ∧ x * y ≤ 1000000000000000000 := by
    unfold zb9 at hx hy
    have a1 : (x * y).natAbs = x.natAbs * y.natAbs := Int.natAbs_mul x y
    have a2 : x.natAbs * y.natAbs ≤ 1000000000 * 1000000000 := Nat.mul_le_mul (by omega) (by omega)
    omega
  have j120 : ∀ v : Int, Q ((zin v).getD 2000000000) μ → zE X true l d 0 0 y_Scene_joined 120 [none, none, none, none, none, some (1, 0, v), none] [] μ (zrl Q) := fun v hv => by
    refine s_Scene_joined_120 ?_
    unfold zin at hv
    refine ⟨fun c => ?_, fun c => ⟨fun c2 => ?_, fun c2 => ?_⟩⟩
    · rw [zcmp_gt] at c
      rw [if_neg (by omega)] at hv; exact hv
    · rw [zcmp_gt] at c
      rw [zcmp_ge] at c2
      rw [if_pos (by omega)] at hv; exact hv
    · rw [zcmp_ge] at c2
      rw [if_neg (by omega)] at hv; exact hv
  unfold zb9 at hx hy
  unfold zjn at hQ
  refine c_Scene_joined ⟨fun e => ?_, fun e => ?_, fun e => ?_, fun e => ⟨fun c => ?_, fun c => ?_⟩, fun e => ?_, fun e => ?_, fun e => ?_⟩
  · rw [if_pos e] at hQ
    rw [zwl_id (by omega) (by omega)]
    exact j120 _ hQ
  · rw [if_neg (by omega), if_pos e] at hQ
    rw [zwl_id (by omega) (by omega)]
    exact j120 _ hQ
  · rw [if_neg (by omega), if_neg (by omega), if_pos e] at hQ
    rw [zwl_id (by omega) (by omega)]
    exact j120 _ hQ
  · rw [zcmp_e] at c
    rw [if_neg (by omega), if_neg (by omega), if_neg (by omega), if_pos e, if_neg c] at hQ
    rw [zdivl_t hx hy]
    exact ⟨c, j120 _ hQ⟩
  · rw [zcmp_e] at c
    rw [if_neg (by omega), if_neg (by omega), if_neg (by omega), if_pos e, if_pos c] at hQ
    refine j120 _ ?_
    unfold zin
    rw [if_neg (by omega)]
    exact hQ
  · rw [if_neg (by omega), if_neg (by omega), if_neg (by omega), if_neg (by omega), if_pos e] at hQ
    by_cases c : x < y
    · rw [if_pos c] at hQ; rw [if_neg (by rw [zcmp_ge]; omega)]; exact hQ
    · rw [if_neg c] at hQ; rw [if_pos (by rw [zcmp_ge]; omega)]; exact hQ
  · rw [if_neg (by omega), if_neg (by omega), if_neg (by omega), if_neg (by omega), if_neg (by omega), if_pos e] at hQ
    by_cases c : y < x
    · rw [if_pos c] at hQ; rw [if_neg (by rw [zcmp_le]; omega)]; exact hQ
    · rw [if_neg c] at hQ; rw [if_pos (by rw [zcmp_le]; omega)]; exact hQ
  · rw [if_neg (by omega), if_neg (by omega), if_neg (by omega), if_neg (by omega), if_neg (by omega), if_neg (by omega)] at hQ
    by_cases c : x = y
    · rw [if_pos c] at hQ; rw [if_neg (by rw [zcmp_e]; omega)]; exact hQ
    · rw [if_neg c] at hQ; rw [if_pos (by rw [zcmp_e]; exact c)]; exact hQ
theorem k_valueOf {a0 a1 i j : Int} {D : Nat} {r : Option Int} (hd : 1 ≤ d) (hS : zS5 (μ (a1 + 5)) (μ (a1 + 6)) (μ (a0 + 13)) i j D r) (hD : D ≤ 64) (i0 : 0 ≤ i) (j1 : j ≤ 400) (ha : ¬ (a1 + 5 = a0 + 14 ∨ a1 + 6 = a0 + 14)) (hQ : ∀ ν, (∀ b : Int, b ≠ a0 + 14 → ν b = μ b) → Q (r.getD 2000000000) ν) : zCl X true l d 0 0 y_Scene_valueOf [(10, 0, a0), (3, 0, a1), (0, 0, i), (0, 0, j)] μ Q := by
  have e0 : (if (0 : Int) < i then i else 0) = i := by split <;> omega
  refine c_Scene_valueOf hd ?_
  rw [e0]
  refine hS (∀ ν' : zM, (∀ b : Int, b ≠ a0 + 14 → ν' b = μ b) → Q 2000000000 ν') (fun s t σ => ∀ ν : zM, (∀ b : Int, b ≠ a0 + 14 → ν b = μ b) → (∀ q : Int, 0 ≤ q → q < t → ν (a0 + 14) q = σ q) → zE X true l d 0 0 y_Scene_valueOf 10 [some (10, 0, a0), some (3, 0, a1), none, some (0, 0, j), some (0, 0, t), some (0, 0, s), none, none] [] ν (zrl Q)) ?_ 0 (μ (a0 + 14)) (by omega) (by omega) (fun e ν' h' => ?_) (fun v e σ' _ h2 ν n1 n2 => ?_) μ (fun _ _ => rfl) (fun q _ _ => rfl)
  · intro s t σ s0 s1 t0 t1
    refine ⟨fun k0 t2 kk ν n1 n2 => ?_, fun k0 t2 b0 b1 kk ν n1 n2 => ?_, fun k0 k1 t2 b1 b2 kB kk ν n1 n2 => ?_, fun k0 t2 b1 kk ν n1 n2 => ?_, fun k0 t2 s2 s3 k1 k2 ν n1 n2 => ?_⟩
    · have e5 : ν (a1 + 5) s = 0 := by rw [n1 _ (by omega)]; exact k0
      have e6 : ν (a1 + 6) s = μ (a1 + 6) s := by rw [n1 _ (by omega)]
      refine s_Scene_valueOf_10 (d1 := 0) (by omega) ⟨fun c => absurd c (by omega), fun _ => ⟨fun c => absurd c (by omega), fun _ => ⟨by omega, by omega, fun c => absurd c (by omega), fun _ => ⟨fun _ => ⟨fun _ => ⟨by omega, ?_⟩, fun c => absurd c (by omega)⟩, fun c => absurd t2 c⟩⟩⟩⟩
      rw [zw_of (x := t + 1) (by omega) (by omega), zw_of (x := s + 1) (by omega) (by omega), e6]
      refine kk _ (fun b hb => (zup_ne hb).trans (n1 b hb)) (fun q q0 q1 => ?_)
      rw [zup_val]
      unfold zsu
      split
      · rfl
      · exact n2 q q0 (by omega)
    · have e5 : ν (a1 + 5) s = 1 := by rw [n1 _ (by omega)]; exact k0
      have e6 : ν (a1 + 6) s = μ (a1 + 6) s := by rw [n1 _ (by omega)]
      have e7 : ν (a0 + 13) = μ (a0 + 13) := n1 _ (by omega)
      refine s_Scene_valueOf_10 (d1 := 0) (by omega) ⟨fun c => absurd c (by omega), fun _ => ⟨fun c => absurd c (by omega), fun _ => ⟨by omega, by omega, fun c => absurd c (by omega), fun _ => ⟨fun _ => ⟨fun c => absurd e5 c, fun _ => ⟨fun c => absurd c (by omega), fun _ => ⟨fun c => absurd c (by omega), fun _ => ⟨by omega, by omega, ?_⟩⟩⟩⟩, fun c => absurd t2 c⟩⟩⟩⟩
      rw [zw_of (x := t + 1) (by omega) (by omega), zw_of (x := s + 1) (by omega) (by omega), e6, e7]
      refine kk _ (fun b hb => (zup_ne hb).trans (n1 b hb)) (fun q q0 q1 => ?_)
      rw [zup_val]
      unfold zsu
      split
      · rfl
      · exact n2 q q0 (by omega)
    · have e5 : ν (a1 + 5) s = μ (a1 + 5) s := by rw [n1 _ (by omega)]
      have z1 : zw (t + (-1)) = t - 1 := by rw [zw_of (by omega) (by omega)]; omega
      have z2 : zw (t - 1 - 1) = t - 2 := by rw [zw_of (by omega) (by omega)]; omega
      refine s_Scene_valueOf_10 (d1 := 0) (by omega) ⟨fun c => absurd c (by omega), fun _ => ⟨fun c => absurd c (by omega), fun _ => ⟨by omega, by omega, fun _ => ⟨fun _ => ⟨fun _ => ?_, fun c => absurd t2 c⟩, fun c => absurd c (by omega)⟩, fun c => absurd c (by omega)⟩⟩⟩
      simp only [z1, z2, e5, zup_hit]
      rw [n2 (t - 2) (by omega) (by omega), n2 (t - 1) (by omega) (by omega)]
      refine ⟨by omega, by omega, k_joined k0 k1 b1 b2 ⟨by omega, by omega, fun c => ?_, fun c => ?_⟩⟩
      · rw [zw_of (x := s + 1) (by omega) (by omega)]
        cases hj : zjn (μ (a1 + 5) s) (σ (t - 2)) (σ (t - 1)) with
        | none => rw [hj] at c; exact absurd (by decide) c
        | some v =>
          refine kk v hj _ (fun b hb => (zup_ne hb).trans (n1 b hb)) (fun q q0 q1 => ?_)
          rw [zup_val]
          unfold zsu
          split
          · rfl
          · exact n2 q q0 (by omega)
      · cases hj : zjn (μ (a1 + 5) s) (σ (t - 2)) (σ (t - 1)) with
        | none => exact kB hj _ (fun b hb => (zup_ne hb).trans (n1 b hb))
        | some v =>
          rw [hj, zcmp_e] at c
          have := zjn_b9 hj
          unfold zb9 at this
          exact absurd c (by show ¬ v = 2000000000; omega)
    · have e5 : ν (a1 + 5) s = 9 := by rw [n1 _ (by omega)]; exact k0
      have z1 : zw (t - 1) = t - 1 := zw_of (by omega) (by omega)
      refine s_Scene_valueOf_10 (d1 := 0) (by omega) ⟨fun c => absurd c (by omega), fun _ => ⟨fun c => absurd c (by omega), fun _ => ⟨by omega, by omega, fun _ => ⟨fun c => absurd c (by omega), fun _ => ⟨fun _ => ⟨fun c => absurd e5 c, fun _ => ?_⟩, fun c => absurd t2 c⟩⟩, fun c => absurd c (by omega)⟩⟩⟩
      unfold zb9 at b1
      rw [z1, n2 (t - 1) (by omega) (by omega), zwl_id (by omega) (by omega), zw_of (x := s + 1) (by omega) (by omega)]
      refine ⟨by omega, by omega, kk _ (fun b hb => (zup_ne hb).trans (n1 b hb)) (fun q q0 q1 => ?_)⟩
      rw [zup_val]
      unfold zsu
      split
      · rfl
      · exact n2 q q0 (by omega)
    · have e5 : ν (a1 + 5) s = μ (a1 + 5) s := by rw [n1 _ (by omega)]
      have e6 : ν (a1 + 6) s = μ (a1 + 6) s := by rw [n1 _ (by omega)]
      have z1 : zw (t - 1) = t - 1 := zw_of (by omega) (by omega)
      have z2 : zw (t + (-1)) = t - 1 := by rw [zw_of (by omega) (by omega)]; omega
      have z3 : zw (μ (a1 + 6) s - 1) = μ (a1 + 6) s - 1 := zw_of (by omega) (by omega)
      have z4 : zw ((if s < μ (a1 + 6) s - 1 then μ (a1 + 6) s - 1 else s) + 1) = μ (a1 + 6) s := by rw [zw_of (by split <;> omega) (by split <;> omega)]; split <;> omega
      have z5 : (if ¬ μ (a1 + 5) s = 10 then (0 : Int) else 1) = if μ (a1 + 5) s = 10 then 1 else 0 := by by_cases e : μ (a1 + 5) s = 10 <;> simp [e]
      refine s_Scene_valueOf_10 (d1 := 0) (by omega) ⟨fun c => absurd c (by omega), fun _ => ⟨fun c => absurd c (by omega), fun _ => ⟨by omega, by omega, fun _ => ⟨fun c => absurd c (by omega), fun _ => ⟨fun _ => ⟨fun _ => ?_, fun c => absurd c (by omega)⟩, fun c => absurd t2 c⟩⟩, fun c => absurd c (by omega)⟩⟩⟩
      rw [z1, z2, e5, e6, z3, z4, z5, n2 (t - 1) (by omega) (by omega), zw_of (x := s + 1) (by omega) (by omega), zcmp_e]
      exact ⟨by omega, fun c => k2 c ν n1 (fun q q0 q1 => n2 q q0 (by omega)), fun c => k1 c ν n1 n2⟩
  · rw [e] at hQ
    exact hQ ν' h'
  · rw [e] at hQ
    refine s_Scene_valueOf_10 (d1 := 0) (by omega) ⟨fun _ => ⟨fun c => absurd (by omega) c, fun _ => ?_⟩, fun c => absurd (by omega) c⟩
    have := n2 0 (by omega) (by omega)
    rw [this]
    show Q (σ' 0) ν
    rw [h2]
    exact hQ ν n1
end

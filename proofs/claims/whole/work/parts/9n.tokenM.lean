/-! law: the reference's reader of words, figures, signs -/
def zwt (T : Int → Int) (L q : Nat) : Int := if zsr T L q = 1 then zwo T L q else if zsr T L q = 2 then znw T L q else if zsr T L q = 3 then T q else 0
def zTm (μ : zM) (T : Int → Int) (L q : Nat) : Prop := μ 1320 7 = L ∧ (∀ i : Int, 0 ≤ i → i < L → μ 1325 i = T i) ∧ μ 1320 8 = q ∧ μ 1320 9 = (zen T L q : Nat) ∧ μ 1320 10 = zsr T L q ∧ μ 1320 11 = zwt T L q ∧ q ≤ L ∧ L ≤ 400
theorem zTm.keep {μ ν : zM} {T : Int → Int} {L q : Nat} (h : zTm μ T L q) (h1 : ν 1325 = μ 1325) (h2 : ∀ j : Int, 7 ≤ j → j ≤ 11 → ν 1320 j = μ 1320 j) : zTm ν T L q := by
  obtain ⟨a, b, c, e, f, f2, g⟩ := h
  exact ⟨by rw [h2 7 (by decide) (by decide)]; exact a, fun i i0 i1 => by rw [h1]; exact b i i0 i1, by rw [h2 8 (by decide) (by decide)]; exact c, by rw [h2 9 (by decide) (by decide)]; exact e, by rw [h2 10 (by decide) (by decide)]; exact f, by rw [h2 11 (by decide) (by decide)]; exact f2, g⟩
section
variable {X : zX} {l : Launch} {d : Nat} {μ : zM} {T : Int → Int} {L : Nat}
theorem zef_stop {s : Int} : ∀ n p : Nat, zef T L s n p = p + n ∨ zsr T L (zef T L s n p) ≠ s
  | 0, p => Or.inl rfl
  | n + 1, p => by
    have := zef_stop (s := s) n (p + 1)
    unfold zef
    split
    · omega
    · rename_i e; exact Or.inr e
theorem zen_stop {q : Nat} (h : zsr T L q = 1 ∨ zsr T L q = 2) (hq : q ≤ L) : zen T L q = L ∨ zsr T L (zen T L q) ≠ zsr T L q := by
  have r := zsr_rng (T := T) (L := L) q
  have := zef_stop (T := T) (L := L) (s := zsr T L q) (L - (q + 1)) (q + 1)
  unfold zen
  rw [if_neg (by omega), if_neg (by omega)]
  omega
theorem zwf_lt {f : Nat → Int} : ∀ n : Nat, n ≤ 10 → (∀ i, i < n → 97 ≤ f i ∧ f i ≤ 122) → zwf f n < 32 ^ n
  | 0, _, _ => by unfold zwf; decide
  | n + 1, h, hf => by
    have ih := zwf_lt n (by omega) (fun i hi => hf i (by omega))
    have := hf n (by omega)
    show (if n < 10 then zwf f n * 32 + f n - 96 else -1) < _
    rw [if_pos (by omega), Int.pow_succ]
    omega
theorem zwf_b10 {f : Nat → Int} {n : Nat} (h : n ≤ 10) (hf : ∀ i, i < n → 97 ≤ f i ∧ f i ≤ 122) : 0 ≤ zwf f n ∧ zwf f n < 1125899906842624 := by
  have a := (zwf_nn n h hf).1
  have b := zwf_lt n h hf
  have c : (32 : Int) ^ n ≤ 32 ^ 10 := by
    obtain ⟨k, hk⟩ : ∃ k, 10 = n + k := ⟨10 - n, by omega⟩
    rw [hk, Int.pow_add]
    have p : (0 : Int) < 32 ^ n := Int.pow_pos (by decide)
    have q : (0 : Int) < 32 ^ k := Int.pow_pos (by decide)
    have := Int.mul_le_mul_of_nonneg_left (show (1 : Int) ≤ 32 ^ k by omega) (Int.le_of_lt p)
    omega
  have e : (32 : Int) ^ 10 = 1125899906842624 := by decide
  omega
theorem k_M_small {x : Int} {Q : Int → zM → Prop} (h1 : 97 ≤ x ∧ x ≤ 122 → Q 1 μ) (h0 : ¬ (97 ≤ x ∧ x ≤ 122) → Q 0 μ) : zCi X true l d 0 0 y_M_isSmall [(0, 0, x)] μ Q :=
  c_M_isSmall ⟨fun c => h0 (by omega), fun c => ⟨fun c2 => h0 (by omega), fun c2 => h1 (by omega)⟩⟩
theorem k_M_digit {x : Int} {Q : Int → zM → Prop} (h1 : 48 ≤ x ∧ x ≤ 57 → Q 1 μ) (h0 : ¬ (48 ≤ x ∧ x ≤ 57) → Q 0 μ) : zCi X true l d 0 0 y_M_isDigit [(0, 0, x)] μ Q :=
  c_M_isDigit ⟨fun c => h0 (by omega), fun c => ⟨fun c2 => h0 (by omega), fun c2 => h1 (by omega)⟩⟩
theorem k_M_next0 {p : Nat} {Q : zM → Prop} (hd : 1 ≤ d) (h7 : μ 1320 7 = L) (ht : ∀ i : Int, 0 ≤ i → i < L → μ 1325 i = T i) (hL : L ≤ 400) (h9 : μ 1320 9 = (p : Int)) (hp : p ≤ L) (hQ : ∀ ν, (∀ b : Int, b ≠ 1320 → ν b = μ b) → (∀ j : Int, ¬ (8 ≤ j ∧ j ≤ 11) → ν 1320 j = μ 1320 j) → zTm ν T L (zbl T L p) → Q ν) : zCv X true l d 0 0 y_M_next_V [(13, 0, 1320)] μ Q := by
  refine c_M_next_V (a0 := 1320) ?_
  rw [h9]
  have sb := zbl_bd (T := T) hp
  generalize hq : zbl T L p = q at *
  have rq := zsr_rng (T := T) (L := L) q
  have eb := zen_bd (T := T) sb.2
  -- the end
  have fin : ∀ ν : zM, (∀ b : Int, b ≠ 1320 → ν b = μ b) → (∀ j : Int, ¬ (8 ≤ j ∧ j ≤ 11) → ν 1320 j = μ 1320 j) → ν 1320 8 = q → ν 1320 9 = (zen T L q : Nat) → ν 1320 10 = zsr T L q → ν 1320 11 = zwt T L q → Q ν := fun ν n1 n2 n3 n4 n5 n6 =>
    hQ ν n1 n2 ⟨by rw [n2 7 (by decide)]; exact h7, fun i i0 i1 => by rw [n1 1325 (by decide)]; exact ht i i0 i1, n3, n4, n5, n6, sb.2, hL⟩
  -- figures
  have l243 : ∀ k i : Nat, q + i + k = zen T L q → zsr T L q = 2 → ∀ ν : zM, (∀ b : Int, b ≠ 1320 → ν b = μ b) → (∀ j : Int, ¬ (8 ≤ j ∧ j ≤ 11) → ν 1320 j = μ 1320 j) → ν 1320 8 = q → ν 1320 9 = ((q + i : Nat) : Int) → ν 1320 10 = zsr T L q → ν 1320 11 = znf T q i → zE X true l d 0 0 y_M_next_V 243 [some (13, 0, 1320)] [] ν (zrn Q) := by
    intro k i hk s2
    have dg : ∀ i', i' < zen T L q - q → 48 ≤ T ((q + i' : Nat) : Int) ∧ T ((q + i' : Nat) : Int) ≤ 57 := fun i' hi => zsr_2 ((zen_in (i := q + i') (Or.inr s2) (by omega) (by omega)).trans s2)
    induction k generalizing i with
    | zero =>
      intro ν n1 n2 n3 n4 n5 n6
      have e7 : ν 1320 7 = L := by rw [n2 7 (by decide)]; exact h7
      have ew : zwt T L q = znf T q i := by
        unfold zwt znw
        rw [if_neg (by omega), if_pos s2, show zen T L q - q = i by omega]
      have here := fin ν n1 n2 n3 (by rw [n4, show q + i = zen T L q by omega]) n5 (by rw [n6, ew])
      refine s_M_next_V_243 (a0 := 1320) (d1 := 0) (by omega) ⟨fun c => absurd (n5.trans s2) c, fun _ => ⟨fun _ => here, fun c => ⟨by omega, ?_⟩⟩⟩
      simp only [Int.reduceAdd]
      have ti : ν 1325 (ν 1320 9) = T ((q + i : Nat) : Int) := by rw [n4, n1 1325 (by decide)]; exact ht _ (by omega) (by omega)
      rw [ti]
      refine k_M_digit (fun w => ?_) (fun w => ⟨fun _ => here, fun z => absurd rfl z⟩)
      have st := zen_stop (T := T) (Or.inr s2) sb.2
      rw [← hk, Nat.add_zero] at st
      have : zsr T L (q + i) = 2 := by
        unfold zsr
        rw [if_pos (by omega), if_neg (by omega), if_pos w]
      omega
    | succ k ih =>
      intro ν n1 n2 n3 n4 n5 n6
      have e7 : ν 1320 7 = L := by rw [n2 7 (by decide)]; exact h7
      have nn := znf_nn i (fun i' hi' => dg i' (by omega))
      have di := dg i (by omega)
      have ti : ν 1325 (ν 1320 9) = T ((q + i : Nat) : Int) := by rw [n4, n1 1325 (by decide)]; exact ht _ (by omega) (by omega)
      have st : znf T q (i + 1) = if 1000000 < znf T q i then znf T q i else znf T q i * 10 + T ((q + i : Nat) : Int) - 48 := rfl
      refine s_M_next_V_243 (a0 := 1320) (d1 := 0) (by omega) ⟨fun c => absurd (n5.trans s2) c, fun _ => ⟨fun c => absurd c (by omega), fun c => ⟨by omega, ?_⟩⟩⟩
      simp only [Int.reduceAdd]
      rw [ti]
      refine k_M_digit (fun w => ⟨fun z => absurd z (by decide), fun _ => ⟨fun z => ⟨by omega, ?_⟩, fun z => ?_⟩⟩) (fun w => absurd di w)
      · rw [zcmp_le, n6] at z
        rw [n6, ti, zwl_id (x := znf T q i * 10) (by omega) (by omega), zwl_id (x := znf T q i * 10 + _) (by omega) (by omega), zwl_id (x := znf T q i * 10 + _ - 48) (by omega) (by omega)]
        rw [zup_miss (by omega), n4, zw_of (by omega) (by omega)]
        rw [if_neg (by omega)] at st
        refine ih (i + 1) (by omega) _ (fun b hb => by rw [zup_ne hb, zup_ne hb]; exact n1 b hb) (fun j hj => by rw [zup_miss (by omega), zup_miss (by omega)]; exact n2 j hj) (by rw [zup_miss (by omega), zup_miss (by omega)]; exact n3) (by rw [zup_hit]; omega) (by rw [zup_miss (by omega), zup_miss (by omega)]; exact n5) (by rw [zup_miss (by omega), zup_hit, st])
      · rw [zcmp_le, n6] at z
        rw [n6, zup_miss (by omega), n4, zw_of (by omega) (by omega)]
        rw [if_pos (by omega)] at st
        refine ih (i + 1) (by omega) _ (fun b hb => by rw [zup_ne hb, zup_ne hb]; exact n1 b hb) (fun j hj => by rw [zup_miss (by omega), zup_miss (by omega)]; exact n2 j hj) (by rw [zup_miss (by omega), zup_miss (by omega)]; exact n3) (by rw [zup_hit]; omega) (by rw [zup_miss (by omega), zup_miss (by omega)]; exact n5) (by rw [zup_miss (by omega), zup_hit, st])
  -- letters
  have l149 : ∀ k i : Nat, q + i + k = zen T L q → zsr T L q = 1 → ∀ ν : zM, (∀ b : Int, b ≠ 1320 → ν b = μ b) → (∀ j : Int, ¬ (8 ≤ j ∧ j ≤ 11) → ν 1320 j = μ 1320 j) → ν 1320 8 = q → ν 1320 9 = ((q + i : Nat) : Int) → ν 1320 10 = zsr T L q → ν 1320 11 = zwf (fun i => T (q + i)) i → zE X true l d 0 0 y_M_next_V 149 [some (13, 0, 1320)] [] ν (zrn Q) := by
    intro k i hk s1
    have dg : ∀ i', i' < zen T L q - q → 97 ≤ T ((q : Int) + i') ∧ T ((q : Int) + i') ≤ 122 := fun i' hi => by
      have := zsr_1 ((zen_in (i := q + i') (Or.inl s1) (by omega) (by omega)).trans s1)
      rw [Int.natCast_add] at this
      exact this
    induction k generalizing i with
    | zero =>
      intro ν n1 n2 n3 n4 n5 n6
      have e7 : ν 1320 7 = L := by rw [n2 7 (by decide)]; exact h7
      have ew : zwt T L q = zwf (fun i => T (q + i)) i := by
        unfold zwt zwo
        rw [if_pos s1, show zen T L q - q = i by omega]
      have here : ∀ ν2 : zM, ν2 = ν → zE X true l d 0 0 y_M_next_V 243 [some (13, 0, 1320)] [] ν2 (zrn Q) := fun ν2 e => by
        rw [e]
        exact s_M_next_V_243 (a0 := 1320) (d1 := 0) (by omega) ⟨fun _ => fin ν n1 n2 n3 (by rw [n4, show q + i = zen T L q by omega]) n5 (by rw [n6, ew]), fun c => by rw [n5] at c; omega⟩
      refine s_M_next_V_149 (a0 := 1320) (d1 := 0) (by omega) ⟨fun c => absurd (n5.trans s1) c, fun _ => ⟨fun _ => here ν rfl, fun c => ⟨by omega, ?_⟩⟩⟩
      simp only [Int.reduceAdd]
      have ti : ν 1325 (ν 1320 9) = T ((q + i : Nat) : Int) := by rw [n4, n1 1325 (by decide)]; exact ht _ (by omega) (by omega)
      rw [ti]
      refine k_M_small (fun w => ?_) (fun w => ⟨fun _ => here ν rfl, fun z => absurd rfl z⟩)
      have st := zen_stop (T := T) (Or.inl s1) sb.2
      rw [← hk, Nat.add_zero] at st
      have : zsr T L (q + i) = 1 := by
        unfold zsr
        rw [if_pos (by omega), if_pos w]
      omega
    | succ k ih =>
      intro ν n1 n2 n3 n4 n5 n6
      have e7 : ν 1320 7 = L := by rw [n2 7 (by decide)]; exact h7
      have di := dg i (by omega)
      have ti : ν 1325 (ν 1320 9) = T ((q : Int) + i) := by rw [n4, n1 1325 (by decide), Int.natCast_add]; exact ht _ (by omega) (by omega)
      have st : zwf (fun i => T (q + i)) (i + 1) = if i < 10 then zwf (fun i => T (q + i)) i * 32 + T ((q : Int) + i) - 96 else -1 := rfl
      refine s_M_next_V_149 (a0 := 1320) (d1 := 0) (by omega) ⟨fun c => absurd (n5.trans s1) c, fun _ => ⟨fun c => absurd c (by omega), fun c => ⟨by omega, ?_⟩⟩⟩
      simp only [Int.reduceAdd]
      rw [ti]
      refine k_M_small (fun w => ⟨fun z => absurd z (by decide), fun _ => ⟨fun z => ?_, fun z => ⟨by omega, ?_⟩⟩⟩) (fun w => absurd di w)
      · rw [n3, n4, zw_of (by omega) (by omega)] at z
        rw [zup_miss (by omega), n4, zw_of (by omega) (by omega)]
        rw [if_neg (by omega)] at st
        refine ih (i + 1) (by omega) _ (fun b hb => by rw [zup_ne hb, zup_ne hb]; exact n1 b hb) (fun j hj => by rw [zup_miss (by omega), zup_miss (by omega)]; exact n2 j hj) (by rw [zup_miss (by omega), zup_miss (by omega)]; exact n3) (by rw [zup_hit]; omega) (by rw [zup_miss (by omega), zup_miss (by omega)]; exact n5) (by rw [zup_miss (by omega), zup_hit, st])
      · rw [n3, n4, zw_of (by omega) (by omega)] at z
        have b10 := zwf_b10 (f := fun i => T (q + i)) (n := i) (by omega) (fun i' hi' => dg i' (by omega))
        rw [n6, ti, zwl_id (x := zwf (fun i => T (q + i)) i * 32) (by omega) (by omega), zwl_id (x := zwf (fun i => T (q + i)) i * 32 + _) (by omega) (by omega), zwl_id (x := zwf (fun i => T (q + i)) i * 32 + _ - 96) (by omega) (by omega)]
        rw [zup_miss (by omega), n4, zw_of (by omega) (by omega)]
        rw [if_pos (by omega)] at st
        refine ih (i + 1) (by omega) _ (fun b hb => by rw [zup_ne hb, zup_ne hb]; exact n1 b hb) (fun j hj => by rw [zup_miss (by omega), zup_miss (by omega)]; exact n2 j hj) (by rw [zup_miss (by omega), zup_miss (by omega)]; exact n3) (by rw [zup_hit]; omega) (by rw [zup_miss (by omega), zup_miss (by omega)]; exact n5) (by rw [zup_miss (by omega), zup_hit, st])
  -- the sort
  have there : ∀ ν : zM, (∀ b : Int, b ≠ 1320 → ν b = μ b) → (∀ j : Int, ¬ (8 ≤ j ∧ j ≤ 11) → ν 1320 j = μ 1320 j) → ν 1320 8 = (q : Int) → zE X true l d 0 0 y_M_next_V 46 [some (13, 0, 1320)] [] ν (zrn Q) := fun ν n1 n2 n3 => by
    have e7 : ν 1320 7 = L := by rw [n2 7 (by decide)]; exact h7
    generalize hν1 : zup (zup ν 1320 9 (ν 1320 8)) 1320 11 0 = ν1
    have m0 : ∀ b : Int, b ≠ 1320 → ν1 b = μ b := fun b hb => by rw [← hν1, zup_ne hb, zup_ne hb]; exact n1 b hb
    have mj : ∀ j : Int, j ≠ 9 → j ≠ 11 → ν1 1320 j = ν 1320 j := fun j j0 j1 => by rw [← hν1, zup_miss (by omega), zup_miss (by omega)]
    have m8 : ν1 1320 8 = q := by rw [mj 8 (by decide) (by decide)]; exact n3
    have m7 : ν1 1320 7 = L := by rw [mj 7 (by decide) (by decide)]; exact e7
    have m9 : ν1 1320 9 = q := by rw [← hν1, zup_miss (by omega), zup_hit]; exact n3
    have m11 : ν1 1320 11 = 0 := by rw [← hν1]; exact zup_hit
    have j114 : ∀ s : Int, s = zsr T L q → zE X true l d 0 0 y_M_next_V 114 [some (13, 0, 1320)] [(0, 0, s), (13, 0, 1320)] ν1 (zrn Q) := fun s hs => by
      generalize hν2 : zup ν1 1320 10 s = ν2
      have w0 : ∀ b : Int, b ≠ 1320 → ν2 b = μ b := fun b hb => by rw [← hν2, zup_ne hb]; exact m0 b hb
      have wj : ∀ j : Int, j ≠ 10 → ν2 1320 j = ν1 1320 j := fun j j0 => by rw [← hν2, zup_miss (by omega)]
      have w10 : ν2 1320 10 = zsr T L q := by rw [← hν2, zup_hit]; exact hs
      have w2 : ∀ j : Int, ¬ (8 ≤ j ∧ j ≤ 11) → ν2 1320 j = μ 1320 j := fun j hj => by rw [wj j (by omega), mj j (by omega) (by omega)]; exact n2 j hj
      have w8 : ν2 1320 8 = q := by rw [wj 8 (by decide)]; exact m8
      have w9 : ν2 1320 9 = q := by rw [wj 9 (by decide)]; exact m9
      have w11 : ν2 1320 11 = 0 := by rw [wj 11 (by decide)]; exact m11
      refine s_M_next_V_114 (a0 := 1320) (as0 := 1320) ?_
      rw [hν2]
      refine ⟨fun c => ?_, fun c => ?_⟩
      · rw [w10] at c
        rcases rq.2 with r | r | r | r
        · have ez : zen T L q = q := by unfold zen; rw [if_pos r]
          have here := fin ν2 w0 w2 w8 (by rw [w9, ez]) w10 (by unfold zwt; rw [if_neg (by omega), if_neg (by omega), if_neg (by omega)]; exact w11)
          exact s_M_next_V_149 (a0 := 1320) (d1 := 0) (by omega) ⟨fun _ => s_M_next_V_243 (a0 := 1320) (d1 := 0) (by omega) ⟨fun _ => here, fun z => absurd z (by omega)⟩, fun z => absurd z (by omega)⟩
        · exact l149 (zen T L q - q) 0 (by omega) r ν2 w0 w2 w8 w9 w10 w11
        · exact s_M_next_V_149 (a0 := 1320) (d1 := 0) (by omega) ⟨fun _ => l243 (zen T L q - q) 0 (by omega) r ν2 w0 w2 w8 w9 w10 w11, fun z => absurd z (by omega)⟩
        · exact absurd r c
      · rw [w10] at c
        have ez : zen T L q = q + 1 := by unfold zen; rw [if_neg (by omega), if_pos c]
        have tq : ν2 1325 (ν2 1320 8) = T q := by rw [w8, w0 1325 (by decide)]; exact ht q (by omega) (by omega)
        refine ⟨by omega, ?_⟩
        simp only [Int.reduceAdd]
        rw [tq, zup_miss (by omega), w9, zw_of (by omega) (by omega)]
        generalize hν3 : zup (zup ν2 1320 11 (T q)) 1320 9 ((q : Int) + 1) = ν3
        have v0 : ∀ b : Int, b ≠ 1320 → ν3 b = μ b := fun b hb => by rw [← hν3, zup_ne hb, zup_ne hb]; exact w0 b hb
        have v2 : ∀ j : Int, ¬ (8 ≤ j ∧ j ≤ 11) → ν3 1320 j = μ 1320 j := fun j hj => by rw [← hν3, zup_miss (by omega), zup_miss (by omega)]; exact w2 j hj
        have v8 : ν3 1320 8 = q := by rw [← hν3, zup_miss (by omega), zup_miss (by omega)]; exact w8
        have v9 : ν3 1320 9 = (zen T L q : Nat) := by rw [← hν3, zup_hit, ez]; omega
        have v10 : ν3 1320 10 = zsr T L q := by rw [← hν3, zup_miss (by omega), zup_miss (by omega)]; exact w10
        have v11 : ν3 1320 11 = zwt T L q := by
          rw [← hν3, zup_miss (by omega), zup_hit]
          unfold zwt
          rw [if_neg (by omega), if_neg (by omega), if_pos c]
        exact s_M_next_V_149 (a0 := 1320) (d1 := 0) (by omega) ⟨fun _ => s_M_next_V_243 (a0 := 1320) (d1 := 0) (by omega) ⟨fun _ => fin ν3 v0 v2 v8 v9 v10 v11, fun z => absurd z (by omega)⟩, fun z => absurd z (by omega)⟩
    refine s_M_next_V_46 (a0 := 1320) (d1 := 0) (by omega) ?_
    rw [hν1]
    refine ⟨fun c => ?_, fun c => j114 0 ?_⟩
    · rw [m8, m7] at c
      have tq : ν1 1325 (ν1 1320 8) = T q := by rw [m8, m0 1325 (by decide)]; exact ht q (by omega) (by omega)
      refine ⟨by omega, ?_⟩
      simp only [Int.reduceAdd]
      rw [tq]
      refine k_M_small (fun w => ⟨fun z => absurd z (by decide), fun _ => j114 1 ?_⟩) (fun w => ⟨fun _ => ⟨by omega, ?_⟩, fun z => absurd rfl z⟩)
      · unfold zsr
        rw [if_pos (by omega), if_pos w]
      · rw [tq]
        refine k_M_digit (fun w2 => ?_) (fun w2 => ?_)
        · rw [if_neg (by decide)]
          refine j114 2 ?_
          unfold zsr
          rw [if_pos (by omega), if_neg w, if_pos w2]
        · rw [if_pos rfl]
          refine j114 3 ?_
          unfold zsr
          rw [if_pos (by omega), if_neg w, if_neg w2]
    · rw [m8, m7] at c
      exact (rq.1.mpr (by omega)).symm
  -- the blanks
  have l8 : ∀ k i : Nat, k + i = L → zsf T k i = q → ∀ ν : zM, (∀ b : Int, b ≠ 1320 → ν b = μ b) → (∀ j : Int, ¬ (8 ≤ j ∧ j ≤ 11) → ν 1320 j = μ 1320 j) → ν 1320 8 = (i : Int) → zE X true l d 0 0 y_M_next_V 8 [some (13, 0, 1320)] [] ν (zrn Q) := by
    intro k
    induction k with
    | zero =>
      intro i hi hz ν n1 n2 n3
      have e1 : ν 1320 7 = L := by rw [n2 7 (by decide)]; exact h7
      have e : i = q := by unfold zsf at hz; exact hz
      rw [e] at n3
      exact s_M_next_V_8 (a0 := 1320) ⟨fun _ => there ν n1 n2 n3, fun c => absurd (by omega) c⟩
    | succ k ih =>
      intro i hi hz ν n1 n2 n3
      have e1 : ν 1320 7 = L := by rw [n2 7 (by decide)]; exact h7
      have e9 : ν 1325 i = T i := by rw [n1 1325 (by decide)]; exact ht i (by omega) (by omega)
      refine s_M_next_V_8 (a0 := 1320) ⟨fun c => absurd c (by omega), fun _ => ⟨by omega, fun c => ?_, fun c => ?_⟩⟩
      · simp only [Int.reduceAdd] at c
        rw [n3, e9] at c
        unfold zsf at hz
        rw [if_neg c] at hz
        rw [hz] at n3
        exact there ν n1 n2 n3
      · simp only [Int.reduceAdd] at c
        rw [n3, e9] at c
        unfold zsf at hz
        rw [if_pos c] at hz
        rw [n3, zw_of (by omega) (by omega)]
        exact ih (i + 1) (by omega) hz _ (fun b hb => (zup_ne hb).trans (n1 b hb)) (fun j hj => (zup_miss (by omega)).trans (n2 j hj)) (by rw [zup_hit]; omega)
  exact l8 (L - p) p (by omega) hq _ (fun b hb => zup_ne hb) (fun j hj => zup_miss (by omega)) zup_hit
theorem k_M_next {q : Nat} {Q : zM → Prop} (hd : 1 ≤ d) (h : zTm μ T L q) (hQ : ∀ ν, (∀ b : Int, b ≠ 1320 → ν b = μ b) → (∀ j : Int, ¬ (8 ≤ j ∧ j ≤ 11) → ν 1320 j = μ 1320 j) → zTm ν T L (znx T L q) → Q ν) : zCv X true l d 0 0 y_M_next_V [(13, 0, 1320)] μ Q :=
  k_M_next0 hd h.1 h.2.1 h.2.2.2.2.2.2.2 h.2.2.2.1 (zen_bd h.2.2.2.2.2.2.1).2.1 hQ
theorem k_M_isSign {q : Nat} {c : Int} {Q : Int → zM → Prop} (h : zTm μ T L q) (h1 : zsg T L q c → Q 1 μ) (h0 : ¬ zsg T L q c → Q 0 μ) : zCi X true l d 0 0 y_M_isSign [(13, 0, 1320), (0, 0, c)] μ Q := by
  obtain ⟨a1, a2, a3, a4, a5, a6, a7⟩ := h
  refine c_M_isSign (a0 := 1320) ⟨fun c1 => h0 (fun w => c1 (a5.trans w.1)), fun c1 => ?_⟩
  have s3 : zsr T L q = 3 := a5.symm.trans c1
  have ew : zwt T L q = T q := by unfold zwt; rw [if_neg (by omega), if_neg (by omega), if_pos s3]
  rw [zcmp_e, a6, ew]
  exact ⟨fun w => h0 (fun z => w z.2), fun w => h1 ⟨s3, w⟩⟩
theorem k_M_isWord {q : Nat} {c : Int} {Q : Int → zM → Prop} (h : zTm μ T L q) (h1 : ziw T L q c → Q 1 μ) (h0 : ¬ ziw T L q c → Q 0 μ) : zCi X true l d 0 0 y_M_isWord [(13, 0, 1320), (1, 0, c)] μ Q := by
  obtain ⟨a1, a2, a3, a4, a5, a6, a7⟩ := h
  refine c_M_isWord (a0 := 1320) ⟨fun c1 => h0 (fun w => c1 (a5.trans w.1)), fun c1 => ?_⟩
  have s1 : zsr T L q = 1 := a5.symm.trans c1
  have ew : zwt T L q = zwo T L q := by unfold zwt; rw [if_pos s1]
  rw [zcmp_e, a6, ew]
  exact ⟨fun w => h0 (fun z => w z.2), fun w => h1 ⟨s1, w⟩⟩
end

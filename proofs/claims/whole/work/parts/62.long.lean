/-! the reference's long numbers -/
def zRn (μ : zM) (c : Int) (n : Nat) (v : Int) : Prop := zdig (μ c) n ∧ znum (μ c) n = v
theorem zRn.keep {μ ν : zM} {c v : Int} {n : Nat} (h : zRn μ c n v) (e : ν c = μ c) : zRn ν c n v := by
  unfold zRn
  rw [e]
  exact h
theorem zRn.bd {μ : zM} {c v : Int} {n : Nat} (h : zRn μ c n v) : 0 ≤ v ∧ v < zpw n := by
  have := znum_bd n h.1
  rw [h.2] at this
  exact this
theorem zpw_ten (n : Nat) : zpw n = 10 ^ (9 * n) := by
  unfold zpw
  rw [show (1000000000 : Int) = 10 ^ 9 by decide, ← Int.pow_mul]
theorem zten_mono {m n : Nat} (h : m ≤ n) : (10 : Int) ^ m ≤ 10 ^ n := by
  obtain ⟨k, rfl⟩ := Nat.le.dest h
  rw [Int.pow_add]
  have := zten_pos m
  have := zten_pos k
  have h1 : (10 : Int) ^ m * 1 ≤ 10 ^ m * 10 ^ k := Int.mul_le_mul_of_nonneg_left (by omega) (by omega)
  omega
theorem zhun (n : Nat) : (100 : Int) ^ n = 10 ^ (2 * n) := by
  rw [Int.pow_mul]
  rfl
section
variable {X : zX} {l : Launch} {d : Nat} {μ : zM} {c v w : Int} {L n : Nat} {Q : zM → Prop}
theorem k_M_setTo (hn : n < 1000) (n0 : 1 ≤ n) (hL : n ≤ L) (w0 : 0 ≤ w) (w1 : w < 1000000000) (hQ : ∀ ν, (∀ b : Int, b ≠ c → ν b = μ b) → zRn ν c n w → Q ν) : zCv X true l d 0 0 y_M_setTo [(15, L, c), (0, 0, (n : Int)), (1, 0, w)] μ Q := by
  have loop : ∀ m i : Nat, i + m = n → ∀ ν : zM, (∀ b : Int, b ≠ c → ν b = μ b) → (∀ j : Int, 0 ≤ j → j < i → ν c j = 0) → zE X true l d 0 0 y_M_setTo 3 [some (15, L, c), some (0, 0, (n : Int)), some (1, 0, w), none, some (0, 0, (i : Int))] [] ν (zrn Q) := by
    intro m
    induction m with
    | zero =>
      intro i hi ν n1 n2
      obtain rfl : i = n := by omega
      refine s_M_setTo_3 ⟨fun _ => ⟨by omega, hQ _ (fun b hb => (zup_ne hb).trans (n1 b hb)) ⟨fun j j0 j1 => ?_, ?_⟩⟩, fun c => absurd (by omega) c⟩
      · rw [zup_val]
        split
        · omega
        · rw [n2 j j0 j1]; omega
      · have := znum_one (f := zup ν c 0 w c) (L := i) (k := 0) (by omega) (fun j j0 j1 j2 => (zup_miss (by omega)).trans (n2 j j0 j1))
        rw [this]
        show zup ν c 0 w c 0 * _ = _
        rw [zup_hit]
        simp [zpw]
    | succ m ih =>
      intro i hi ν n1 n2
      refine s_M_setTo_3 ⟨fun c => absurd c (by omega), fun _ => ⟨by omega, ?_⟩⟩
      rw [zw_of (by omega) (by omega)]
      refine ih (i + 1) (by omega) _ (fun b hb => (zup_ne hb).trans (n1 b hb)) (fun j j0 j1 => ?_)
      rw [zup_val]
      split
      · rfl
      · exact n2 j j0 (by omega)
  exact c_M_setTo (loop n 0 (by omega) μ (fun _ _ => rfl) (fun j j0 j1 => by omega))
theorem k_M_times (hn : n < 1000) (hL : n ≤ L) (h : zRn μ c n v) (w0 : 0 ≤ w) (w1 : w ≤ 1000000000) (hv : v * w < zpw n) (hQ : ∀ ν, (∀ b : Int, b ≠ c → ν b = μ b) → zRn ν c n (v * w) → Q ν) : zCv X true l d 0 0 y_M_times [(15, L, c), (0, 0, (n : Int)), (1, 0, w)] μ Q := by
  have loop : ∀ m i : Nat, i + m = n → ∀ (ν : zM) (k : Int), (∀ b : Int, b ≠ c → ν b = μ b) → (∀ j : Int, i ≤ j → ν c j = μ c j) → zdig (ν c) n → 0 ≤ k → k ≤ w → znum (ν c) i + k * zpw i = znum (μ c) i * w → zE X true l d 0 0 y_M_times 6 [some (15, L, c), some (0, 0, (n : Int)), some (1, 0, w), none, some (1, 0, k), none, some (0, 0, (i : Int)), none, none] [] ν (zrn Q) := by
    intro m
    induction m with
    | zero =>
      intro i hi ν k n1 n2 n3 k0 k1 hk
      obtain rfl : i = n := by omega
      rw [h.2] at hk
      have b1 := znum_bd i n3
      have kz : k = 0 := by
        by_cases e : k = 0
        · exact e
        · have b2 : 1 * zpw i ≤ k * zpw i := Int.mul_le_mul_of_nonneg_right (by omega) (by have := zpw_pos i; omega)
          omega
      rw [kz, Int.zero_mul, Int.add_zero] at hk
      exact s_M_times_6 ⟨fun _ => hQ ν n1 ⟨n3, hk⟩, fun c => absurd (by omega) c⟩
    | succ m ih =>
      intro i hi ν k n1 n2 n3 k0 k1 hk
      have e1 : ν c i = μ c i := n2 i (by omega)
      have hdg := h.1 i (by omega) (by omega)
      have p0 : 0 ≤ μ c i * w := Int.mul_nonneg hdg.1 w0
      have p1 : μ c i * w ≤ 999999999 * w := Int.mul_le_mul_of_nonneg_right (by omega) w0
      refine s_M_times_6 ⟨fun c => absurd c (by omega), fun _ => ⟨by omega, by omega, ?_⟩⟩
      rw [e1, zwl_id (x := μ c i * w) (by omega) (by omega), zwl_id (by omega) (by omega), zdivl_of (by omega) (by omega) (by decide) (by decide), zreml_of (by omega) (by omega) (by decide) (by decide), zw_of (x := (i : Int) + 1) (by omega) (by omega)]
      refine ih (i + 1) (by omega) _ _ (fun b hb => (zup_ne hb).trans (n1 b hb)) (fun j hj => (zup_miss (by omega)).trans (n2 j (by omega))) (fun j j0 j1 => ?_) (by omega) (by omega) ?_
      · rw [zup_val]
        split
        · omega
        · exact n3 j j0 j1
      · rw [znum_up, zpw_succ]
        rw [zcarry (F := znum (μ c) i * w) (c := k) (t := μ c i * w) hk (by omega)]
        simp only [znum]
        grind
  exact c_M_times (loop n 0 (by omega) μ 0 (fun _ _ => rfl) (fun _ _ => rfl) h.1 (by omega) w0 (by simp [znum]))
theorem k_M_turn {c1 : Int} {L1 : Nat} (hL : 16 ≤ L) (hL1 : 16 ≤ L1) (hc : c ≠ c1) (h : zRn μ c 16 v) (h1 : zRn μ c1 16 w) (hv : v ≤ w) (hQ : ∀ ν, (∀ b : Int, b ≠ c → ν b = μ b) → zRn ν c 16 (w - v) → Q ν) : zCv X true l d 0 0 y_M_turn [(15, L, c), (15, L1, c1)] μ Q := by
  have loop : ∀ m i : Nat, i + m = 16 → ∀ (ν : zM) (k : Int), (∀ b : Int, b ≠ c → ν b = μ b) → (∀ j : Int, i ≤ j → ν c j = μ c j) → zdig (ν c) 16 → (k = 0 ∨ k = 1) → znum (ν c) i = znum (μ c1) i - znum (μ c) i + k * zpw i → zE X true l d 0 0 y_M_turn 5 [some (15, L, c), some (15, L1, c1), some (1, 0, k), none, some (0, 0, (i : Int)), none, none] [] ν (zrn Q) := by
    intro m
    induction m with
    | zero =>
      intro i hi ν k n1 n2 n3 k0 hk
      obtain rfl : i = 16 := by omega
      rw [h.2, h1.2] at hk
      have b1 := znum_bd 16 n3
      have kz : k = 0 := by
        rcases k0 with k0 | k0
        · exact k0
        · rw [k0, Int.one_mul] at hk
          omega
      rw [kz, Int.zero_mul, Int.add_zero] at hk
      exact s_M_turn_5 ⟨fun _ => hQ ν n1 ⟨n3, hk⟩, fun c => absurd (by omega) c⟩
    | succ m ih =>
      intro i hi ν k n1 n2 n3 k0 hk
      have e1 : ν c i = μ c i := n2 i (by omega)
      have e2 : ν c1 = μ c1 := n1 c1 (by omega)
      have f1 := h.1 i (by omega) (by omega)
      have f2 := h1.1 i (by omega) (by omega)
      have ez : ∀ x : Int, (0 ≤ zcmp x 0) = (0 ≤ x) := fun x => by
        unfold zcmp
        refine propext ⟨fun q => ?_, fun q => ?_⟩
        · split at q
          · omega
          · split at q <;> omega
        · split
          · omega
          · split <;> omega
      refine s_M_turn_5 ⟨fun c => absurd c (by omega), fun _ => ⟨by omega, by omega, ?_⟩⟩
      simp only [ez]
      rw [e1, e2, zwl_id (x := μ c1 i - μ c i) (by omega) (by omega), zwl_id (x := μ c1 i - μ c i - k) (by omega) (by omega), zw_of (x := (i : Int) + 1) (by omega) (by omega)]
      refine ⟨fun s => ⟨by omega, ?_⟩, fun s => ⟨by omega, ?_⟩⟩
      · rw [if_pos s]
        refine ih (i + 1) (by omega) _ _ (fun b hb => (zup_ne hb).trans (n1 b hb)) (fun j hj => (zup_miss (by omega)).trans (n2 j (by omega))) (fun j j0 j1 => ?_) (Or.inl rfl) ?_
        · rw [zup_val]
          split
          · omega
          · exact n3 j j0 j1
        · rw [znum_up, hk]
          simp only [znum]
          grind
      · rw [if_neg s, zwl_id (by omega) (by omega)]
        refine ih (i + 1) (by omega) _ _ (fun b hb => (zup_ne hb).trans (n1 b hb)) (fun j hj => (zup_miss (by omega)).trans (n2 j (by omega))) (fun j j0 j1 => ?_) (Or.inr rfl) ?_
        · rw [zup_val]
          split
          · omega
          · exact n3 j j0 j1
        · rw [znum_up, hk, zpw_succ]
          simp only [znum]
          grind
  exact c_M_turn (loop 16 0 (by omega) μ 0 (fun _ _ => rfl) (fun _ _ => rfl) h.1 (Or.inl rfl) (by simp [znum]))
theorem k_findWhole {h : Nat} (hd : 1 ≤ d) (hh : h ≤ 60) (hQ : ∀ ν, (∀ b : Int, b ≠ 1334 → ν b = μ b) → zRn ν 1334 16 (100 ^ h) → Q ν) : zCv X true l d 0 0 y_M_findWhole [(13, 0, 1320), (0, 0, (h : Int))] μ Q := by
  have loop : ∀ m i : Nat, i + m = h → ∀ ν : zM, (∀ b : Int, b ≠ 1334 → ν b = μ b) → zRn ν 1334 16 (100 ^ i) → zE X true l d 0 0 y_M_findWhole 12 [some (13, 0, 1320), some (0, 0, (h : Int)), some (0, 0, (i : Int))] [] ν (zrn Q) := by
    intro m
    induction m with
    | zero =>
      intro i hi ν n1 n2
      obtain rfl : i = h := by omega
      exact s_M_findWhole_12 (d1 := 0) (by omega) ⟨fun _ => hQ ν n1 n2, fun c => absurd (by omega) c⟩
    | succ m ih =>
      intro i hi ν n1 n2
      refine s_M_findWhole_12 (d1 := 0) (by omega) ⟨fun c => absurd c (by omega), fun _ => k_M_times (c := 1334) (n := 16) (by omega) (by omega) n2 (by omega) (by omega) ?_ (fun ν' m1 m2 => ?_)⟩
      · rw [← Int.pow_succ, zhun, zpw_ten]
        have := zten_mono (m := 2 * i.succ) (n := 143) (by omega)
        have e : (10 : Int) ^ (9 * 16) = 10 ^ 143 * 10 := by decide
        have := zten_pos 143
        omega
      · rw [zw_of (by omega) (by omega)]
        rw [← Int.pow_succ] at m2
        exact ih (i + 1) (by omega) ν' (fun b hb => (m1 b hb).trans (n1 b hb)) m2
  exact c_M_findWhole (d1 := 0) (by omega) (k_M_setTo (c := 1334) (n := 16) (by omega) (by omega) (by omega) (by omega) (by omega) (fun ν n1 n2 => loop h 0 (by omega) ν n1 (by simpa using n2)))
end
theorem znum_nil {f : Int → Int} : znum f 0 = 0 := rfl
section
variable {X : zX} {l : Launch} {d : Nat} {μ : zM} {c v w : Int} {L n : Nat} {Q : Int → zM → Prop}
/-- one division by ten -/
theorem k_mil68 {t : Int} (h : zRn μ 1335 16 w) (hQ : ∀ ν, (∀ b : Int, b ≠ 1335 → ν b = μ b) → zRn ν 1335 16 (w / 10) → zE X true l d 0 0 y_M_millionths 55 [some (13, 0, 1320), none, none, some (0, 0, zw (t + (-1))), none, none, none, none, none] [] ν (zri Q)) : zE X true l d 0 0 y_M_millionths 68 [some (13, 0, 1320), none, none, some (0, 0, t), some (1, 0, 0), none, some (0, 0, 15), none, none] [] μ (zri Q) := by
  have hb := h.bd
  have loop : ∀ n : Nat, n ≤ 16 → ∀ (ν : zM) (r : Int), (∀ b : Int, b ≠ 1335 → ν b = μ b) → (∀ j : Int, j < n → ν 1335 j = μ 1335 j) → zdig (ν 1335) 16 → r = w / zpw n % 10 → znum (fun i => ν 1335 (n + i)) (16 - n) = w / zpw n / 10 → zE X true l d 0 0 y_M_millionths 68 [some (13, 0, 1320), none, none, some (0, 0, t), some (1, 0, r), none, some (0, 0, (n : Int) - 1), none, none] [] ν (zri Q) := by
    intro n
    induction n with
    | zero =>
      intro hn ν r n1 n2 n3 hr hk
      refine s_M_millionths_68 ⟨fun _ => hQ ν n1 ⟨n3, ?_⟩, fun c => absurd (by omega) c⟩
      have e0 : (zpw 0 : Int) = 1 := by decide
      rw [e0, Int.ediv_one] at hk
      rw [← hk]
      refine znum_congr 16 (fun j j0 j1 => ?_)
      simp
    | succ n ih =>
      intro hn ν r n1 n2 n3 hr hk
      have en : ((n + 1 : Nat) : Int) - 1 = n := by omega
      rw [en]
      have e1 : ν 1335 n = μ 1335 n := n2 n (by omega)
      have dg := h.1 n (by omega) (by omega)
      have q1 := znum_at h.1 (k := n) (by omega)
      rw [h.2] at q1
      have q2 : w / zpw (n + 1) = w / zpw n / 1000000000 := by
        rw [Int.ediv_ediv_of_nonneg (by have := zpw_pos n; omega), zpw_succ, Int.mul_comm]
      have q3 : 0 ≤ r ∧ r < 10 := by omega
      refine s_M_millionths_68 ⟨fun c => absurd c (by omega), fun _ => ⟨by omega, by omega, ?_⟩⟩
      show zE X true l d 0 0 y_M_millionths 68 [some (13, 0, 1320), none, none, some (0, 0, t), some (1, 0, zreml (zwl (zwl (r * 1000000000) + ν 1335 n)) 10), none, some (0, 0, zw ((n : Int) + (-1))), none, none] [] (zup ν 1335 n (zdivl (zwl (zwl (r * 1000000000) + ν 1335 n)) 10)) (zri Q)
      rw [e1, zwl_id (x := r * 1000000000) (by omega) (by omega), zwl_id (by omega) (by omega), zdivl_of (by omega) (by omega) (by decide) (by decide), zreml_of (by omega) (by omega) (by decide) (by decide), zw_of (by omega) (by omega), show (n : Int) + (-1) = n - 1 by omega]
      generalize w / zpw n = x at *
      refine ih (by omega) _ _ (fun b hb => (zup_ne hb).trans (n1 b hb)) (fun j hj => (zup_miss (by omega)).trans (n2 j (by omega))) (fun j j0 j1 => ?_) (by omega) ?_
      · rw [zup_val]
        split
        · omega
        · exact n3 j j0 j1
      · obtain ⟨k, hk'⟩ : ∃ k, 16 - n = k + 1 := ⟨15 - n, by omega⟩
        rw [hk', znum_low]
        have e3 : 16 - (n + 1) = k := by omega
        rw [e3] at hk
        have e4 : znum (fun i => (fun i => zup ν 1335 n ((r * 1000000000 + μ 1335 n) / 10) 1335 (n + i)) (1 + i)) k = x / 1000000000 / 10 := by
          rw [← q2, ← hk]
          refine znum_congr k (fun j j0 j1 => ?_)
          show zup ν 1335 n _ 1335 (n + (1 + j)) = _
          rw [zup_miss (by omega)]
          congr 1
          omega
        rw [e4]
        show zup ν 1335 n _ 1335 (n + 0) + _ = _
        rw [Int.add_zero, zup_hit]
        omega
  have := loop 16 (by omega) μ 0 (fun _ _ => rfl) (fun _ _ => rfl) h.1 (by rw [Int.ediv_eq_zero_of_lt hb.1 hb.2]; rfl) (by rw [Int.ediv_eq_zero_of_lt hb.1 hb.2]; rfl)
  exact this
theorem k_M_millionths {h : Nat} (hd : 1 ≤ d) (hL : 16 ≤ L) (hc : c ≠ 1335) (hh : h ≤ 60) (hv : zRn μ c 16 v) (hle : v ≤ 10 ^ (2 * h)) (hQ : ∀ ν, (∀ b : Int, b ≠ 1335 → ν b = μ b) → Q (v * 10 ^ (6 - 2 * h) / 10 ^ (2 * h - 6)) ν) : zCi X true l d 0 0 y_M_millionths [(13, 0, 1320), (15, L, c), (0, 0, (h : Int))] μ Q := by
  have vb := hv.bd
  -- the divisions
  have l55 : ∀ (m : Nat) (w : Int) (ν : zM), w / 10 ^ m < 1000000000 → (∀ b : Int, b ≠ 1335 → ν b = μ b) → zRn ν 1335 16 w → w / 10 ^ m = v * 10 ^ (6 - 2 * h) / 10 ^ (2 * h - 6) → m ≤ 1000 → ∀ t : Int, (t = 6 + m ∨ (m = 0 ∧ t ≤ 6)) → zE X true l d 0 0 y_M_millionths 55 [some (13, 0, 1320), none, none, some (0, 0, t), none, none, none, none, none] [] ν (zri Q) := by
    intro m
    induction m with
    | zero =>
      intro w ν hw n1 n2 he hm t ht
      rw [show (10 : Int) ^ 0 = 1 by decide, Int.ediv_one] at hw he
      refine s_M_millionths_55 ⟨fun _ => ?_, fun c => absurd (by omega) c⟩
      have q := znum_at n2.1 (k := 0) (by omega)
      rw [n2.2, show zpw 0 = 1 by decide, Int.ediv_one, Int.emod_eq_of_lt n2.bd.1 hw] at q
      have q' : ν (1320 + 15) 0 = w := q
      rw [q', zw_of (by have := n2.bd.1; omega) (by omega), he]
      exact hQ ν n1
    | succ m ih =>
      intro w ν hw n1 n2 he hm t ht
      have e : w / 10 ^ (m + 1) = w / 10 / 10 ^ m := by rw [Int.ediv_ediv_of_nonneg (by decide), Int.pow_succ, Int.mul_comm]
      rw [e] at hw he
      refine s_M_millionths_55 ⟨fun c => absurd c (by omega), fun _ => k_mil68 n2 (fun ν' m1 m2 => ?_)⟩
      rw [zw_of (by omega) (by omega)]
      exact ih (w / 10) ν' hw (fun b hb => (m1 b hb).trans (n1 b hb)) m2 he (by omega) _ (Or.inl (by omega))
  have fin : ∀ (w : Int) (ν : zM), w = v * 10 ^ (6 - 2 * h) → (∀ b : Int, b ≠ 1335 → ν b = μ b) → zRn ν 1335 16 w → zE X true l d 0 0 y_M_millionths 55 [some (13, 0, 1320), none, none, some (0, 0, zw (2 * (h : Int))), none, none, none, none, none] [] ν (zri Q) := by
    intro w ν hw n1 n2
    rw [zw_of (by omega) (by omega)]
    refine l55 (2 * h - 6) w ν ?_ n1 n2 (by rw [hw]) (by omega) _ (by omega)
    rw [hw]
    by_cases q : 6 ≤ 2 * h
    · rw [show 6 - 2 * h = 0 by omega, show (10 : Int) ^ 0 = 1 by decide, Int.mul_one]
      have p := zten_pos (2 * h - 6)
      refine Int.ediv_lt_of_lt_mul p ?_
      have e : (10 : Int) ^ (2 * h) = 10 ^ 6 * 10 ^ (2 * h - 6) := by rw [← Int.pow_add]; congr 1; omega
      rw [show (10 : Int) ^ 6 = 1000000 by decide] at e
      omega
    · rw [show 2 * h - 6 = 0 by omega, show (10 : Int) ^ 0 = 1 by decide, Int.ediv_one]
      have : h = 0 ∨ h = 1 ∨ h = 2 := by omega
      rcases this with rfl | rfl | rfl
      · rw [show (10 : Int) ^ (2 * 0) = 1 by decide] at hle; rw [show (10 : Int) ^ (6 - 2 * 0) = 1000000 by decide]; omega
      · rw [show (10 : Int) ^ (2 * 1) = 100 by decide] at hle; rw [show (10 : Int) ^ (6 - 2 * 1) = 10000 by decide]; omega
      · rw [show (10 : Int) ^ (2 * 2) = 10000 by decide] at hle; rw [show (10 : Int) ^ (6 - 2 * 2) = 100 by decide]; omega
  have l27 : ∀ (m : Nat) (w : Int) (ν : zM), w * 10 ^ m = v * 10 ^ (6 - 2 * h) → 0 ≤ w → w * 10 ^ m < zpw 15 → (∀ b : Int, b ≠ 1335 → ν b = μ b) → zRn ν 1335 16 w → ∀ t : Int, (t + m = 6 ∧ m ≤ 6) ∨ (m = 0 ∧ 6 ≤ t) → zE X true l d 0 0 y_M_millionths 27 [some (13, 0, 1320), none, some (0, 0, (h : Int)), some (0, 0, t), none, none, none, none, none] [] ν (zri Q) := by
    intro m
    induction m with
    | zero =>
      intro w ν hw w0 hw2 n1 n2 t ht
      rw [show (10 : Int) ^ 0 = 1 by decide, Int.mul_one] at hw
      exact s_M_millionths_27 (d1 := 0) (by omega) ⟨fun _ => fin w ν hw n1 n2, fun c => absurd (by omega) c⟩
    | succ m ih =>
      intro w ν hw w0 hw2 n1 n2 t ht
      rw [Int.pow_succ, Int.mul_comm (10 ^ m) 10, ← Int.mul_assoc] at hw hw2
      refine s_M_millionths_27 (d1 := 0) (by omega) ⟨fun c => absurd c (by omega), fun _ => k_M_times (c := 1335) (n := 16) (by omega) (by omega) n2 (by omega) (by omega) ?_ (fun ν' m1 m2 => ?_)⟩
      · have p : 1 ≤ (10 : Int) ^ m := by have := zten_pos m; omega
        have h1 : w * 10 * 1 ≤ w * 10 * 10 ^ m := Int.mul_le_mul_of_nonneg_left p (by omega)
        have := zpw_mono (m := 15) (n := 16) (by omega)
        omega
      · rw [zw_of (by omega) (by omega)]
        exact ih (w * 10) ν' hw (by omega) hw2 (fun b hb => (m1 b hb).trans (n1 b hb)) m2 _ (by omega)
  have l2 : ∀ m i : Nat, i + m = 16 → ∀ ν : zM, (∀ b : Int, b ≠ 1335 → ν b = μ b) → (∀ j : Int, 0 ≤ j → j < i → ν 1335 j = μ c j) → zE X true l d 0 0 y_M_millionths 2 [some (13, 0, 1320), some (15, L, c), some (0, 0, (h : Int)), some (0, 0, (i : Int)), none, none, none, none, none] [] ν (zri Q) := by
    intro m
    induction m with
    | zero =>
      intro i hi ν n1 n2
      obtain rfl : i = 16 := by omega
      refine s_M_millionths_2 ⟨fun _ => ?_, fun c => absurd (by decide) c⟩
      rw [zw_of (by omega) (by omega)]
      refine l27 (6 - 2 * h) v ν rfl vb.1 ?_ n1 ⟨fun j j0 j1 => by rw [n2 j j0 j1]; exact hv.1 j j0 j1, by rw [← hv.2]; exact znum_congr 16 n2⟩ _ (by omega)
      rw [zpw_ten]
      by_cases q : 6 ≤ 2 * h
      · rw [show 6 - 2 * h = 0 by omega, show (10 : Int) ^ 0 = 1 by decide, Int.mul_one]
        have := zten_mono (m := 2 * h) (n := 134) (by omega)
        have e : (10 : Int) ^ (9 * 15) = 10 ^ 134 * 10 := by decide
        have := zten_pos 134
        omega
      · have : h = 0 ∨ h = 1 ∨ h = 2 := by omega
        have e : (10000000 : Int) < 10 ^ (9 * 15) := by decide
        rcases this with rfl | rfl | rfl
        · rw [show (10 : Int) ^ (2 * 0) = 1 by decide] at hle; rw [show (10 : Int) ^ (6 - 2 * 0) = 1000000 by decide]; omega
        · rw [show (10 : Int) ^ (2 * 1) = 100 by decide] at hle; rw [show (10 : Int) ^ (6 - 2 * 1) = 10000 by decide]; omega
        · rw [show (10 : Int) ^ (2 * 2) = 10000 by decide] at hle; rw [show (10 : Int) ^ (6 - 2 * 2) = 100 by decide]; omega
    | succ m ih =>
      intro i hi ν n1 n2
      refine s_M_millionths_2 ⟨fun c => absurd c (by omega), fun _ => ⟨by omega, by omega, ?_⟩⟩
      rw [zw_of (by omega) (by omega)]
      refine ih (i + 1) (by omega) _ (fun b hb => (zup_ne (by omega)).trans (n1 b hb)) (fun j j0 j1 => ?_)
      show zup ν 1335 i (ν c i) 1335 j = _
      rw [zup_val, n1 c hc]
      split
      · rename_i e; rw [e]
      · exact n2 j j0 (by omega)
  exact c_M_millionths (l2 16 0 rfl μ (fun _ _ => rfl) (fun j j0 j1 => by omega))
end

/-! likelyOf -/
/-- what all laws count together -/
def ztot (c : Nat → Int) : Nat → Int
  | 0 => 0
  | n + 1 => ztot c n + c n
theorem ztot_bd {c : Nat → Int} {B : Int} : ∀ n : Nat, (∀ i : Nat, i < n → 0 ≤ c i ∧ c i ≤ B) → 0 ≤ ztot c n ∧ ztot c n ≤ B * n ∧ ∀ i : Nat, i < n → c i ≤ ztot c n
  | 0, _ => by unfold ztot; exact ⟨by omega, by omega, fun i hi => by omega⟩
  | n + 1, h => by
    obtain ⟨a, b, e⟩ := ztot_bd n (fun i hi => h i (by omega))
    have hn := h n (by omega)
    unfold ztot
    refine ⟨by omega, ?_, fun i hi => ?_⟩
    · have : B * ((n + 1 : Nat) : Int) = B * n + B := by
        rw [show ((n + 1 : Nat) : Int) = (n : Int) + 1 by omega, Int.mul_add, Int.mul_one]
      omega
    · by_cases q : i = n
      · rw [q]; omega
      · have := e i (by omega); omega
/-- millionths of all -/
def zshr9 (c all : Int) : Int := if all = 0 then 0 else c * 1000000 / all
theorem zdiv_uniq {p q k : Int} (hq : 0 < q) (h1 : k * q ≤ p) (h2 : p < (k + 1) * q) : p / q = k := by
  refine Int.le_antisymm ?_ ?_
  · have := Int.ediv_lt_of_lt_mul hq h2
    omega
  · exact Int.le_ediv_of_mul_le hq h1
section
variable {X : zX} {l : Launch} {d : Nat} {μ : zM}
/-- the sum of total and counts -/
theorem k_tot33 {x1 x2 a b : Int} {R : Option zV → zM → Prop} (h1 : zRn μ 1345 180 a) (h2 : zRn μ 1344 180 b) (hv : a + b < zpw 180) (hQ : ∀ ν, (∀ q : Int, q ≠ 1345 → ν q = μ q) → zRn ν 1345 180 (a + b) → zE X true l d 0 0 y_M_likelyOf 13 [some (13, 0, 1320), some (0, 0, x1), some (0, 0, zw (x2 + 1)), none, none, none, none, none] [] ν R) : zE X true l d 0 0 y_M_likelyOf 33 [some (13, 0, 1320), some (0, 0, x1), some (0, 0, x2), some (1, 0, 0), none, some (0, 0, 0), none, none] [] μ R := by
  have loop : ∀ k i : Nat, i + k = 180 → ∀ (ν : zM) (c : Int), (∀ q : Int, q ≠ 1345 → ν q = μ q) → (∀ j : Int, i ≤ j → ν 1345 j = μ 1345 j) → zdig (ν 1345) 180 → 0 ≤ c → c ≤ 1 → znum (ν 1345) i + c * zpw i = znum (μ 1345) i + znum (μ 1344) i → zE X true l d 0 0 y_M_likelyOf 33 [some (13, 0, 1320), some (0, 0, x1), some (0, 0, x2), some (1, 0, c), none, some (0, 0, (i : Int)), none, none] [] ν R := by
    intro k
    induction k with
    | zero =>
      intro i hi ν c n1 n2 n3 c0 c1 hc
      obtain rfl : i = 180 := by omega
      rw [h1.2, h2.2] at hc
      have b1 := znum_bd 180 n3
      have cz : c = 0 := by
        by_cases e : c = 0
        · exact e
        · have e1 : c = 1 := by omega
          rw [e1, Int.one_mul] at hc
          omega
      rw [cz, Int.zero_mul, Int.add_zero] at hc
      exact s_M_likelyOf_33 ⟨fun _ => hQ ν n1 ⟨n3, hc⟩, fun c => absurd (by decide) c⟩
    | succ k ih =>
      intro i hi ν c n1 n2 n3 c0 c1 hc
      have e1 : ν 1345 i = μ 1345 i := n2 i (by omega)
      have f1 := h1.1 i (by omega) (by omega)
      have f2 := h2.1 i (by omega) (by omega)
      refine s_M_likelyOf_33 (a0 := 1320) ⟨fun c => absurd c (by omega), fun _ => ⟨by omega, by omega, by omega, ?_⟩⟩
      simp only [Int.reduceAdd]
      rw [e1, n1 1344 (by decide), zwl_id (x := μ 1345 i + μ 1344 i) (by omega) (by omega), zwl_id (by omega) (by omega), zdivl_of (by omega) (by omega) (by decide) (by decide), zreml_of (by omega) (by omega) (by decide) (by decide), zw_of (x := (i : Int) + 1) (by omega) (by omega)]
      refine ih (i + 1) (by omega) _ _ (fun b hb => (zup_ne hb).trans (n1 b hb)) (fun j hj => (zup_miss (by omega)).trans (n2 j (by omega))) (fun j j0 j1 => ?_) (by omega) (by omega) ?_
      · rw [zup_val]
        split
        · omega
        · exact n3 j j0 j1
      · rw [znum_up, zpw_succ]
        rw [zcarry (F := znum (μ 1345) i + znum (μ 1344) i) (c := c) (t := μ 1345 i + μ 1344 i) hc (by omega), znum_s, znum_s]
        have : ∀ A B x y p : Int, A + B + (x + y) * p = A + x * p + (B + y * p) := fun A B x y p => by grind
        exact this _ _ _ _ _
  exact loop 180 0 rfl μ 0 (fun _ _ => rfl) (fun _ _ => rfl) h1.1 (by omega) (by omega) (by rw [show znum (μ 1345) 0 = 0 from rfl, show znum (μ 1344) 0 = 0 from rfl, Int.zero_mul])
/-- the search -/
theorem k_lik143 {tot p : Int} {Q : Int → zM → Prop} (hd : 1 ≤ d) (t0 : 0 < tot) (ht : tot * 1000000 < zpw 180) (hb : ∀ ν : zM, (∀ q : Int, q ≠ 1347 → ν q = μ q) → Q (p / tot) ν) (h1 : zRn μ 1345 180 tot) (h2 : zRn μ 1344 180 p) : ∀ (n : Nat) (lo hi : Int), hi - lo = n → 0 ≤ lo → hi ≤ 1000000 → lo * tot ≤ p → p < (hi + 1) * tot → ∀ ν : zM, (∀ q : Int, q ≠ 1347 → ν q = μ q) → zE X true l d 0 0 y_M_likelyOf 143 [some (13, 0, 1320), none, some (0, 0, lo), some (0, 0, hi), none, none, none, none] [] ν (zri Q) := by
  intro n
  induction n using Nat.strongRecOn with
  | ind n ih =>
    intro lo hi hn l0 h6 i1 i2 ν n1
    by_cases e : hi ≤ lo
    · refine s_M_likelyOf_143 ⟨fun _ => ?_, fun c => absurd e c⟩
      have : p / tot = lo := zdiv_uniq t0 i1 (by rw [show lo = hi by omega]; exact i2)
      show Q lo ν
      rw [← this]
      exact hb ν n1
    · refine s_M_likelyOf_143 ⟨fun c => absurd c e, fun _ => ?_⟩
      rw [zw_of (x := lo + hi) (by omega) (by omega), zw_of (x := lo + hi + 1) (by omega) (by omega), zdivi_of (by omega) (by omega) (by decide) (by decide)]
      generalize hmid : (lo + hi + 1) / 2 = mid
      have m1 : lo < mid := by omega
      have m2 : mid ≤ hi := by omega
      have loop : ∀ k i : Nat, i + k = 180 → ∀ ν' : zM, (∀ q : Int, q ≠ 1347 → ν' q = μ q) → (∀ j : Int, 0 ≤ j → j < i → ν' 1347 j = μ 1345 j) → zE X true l d 0 0 y_M_likelyOf 160 [some (13, 0, 1320), none, some (0, 0, lo), some (0, 0, hi), some (0, 0, mid), some (0, 0, (i : Int)), none, none] [] ν' (zri Q) := by
        intro k
        induction k with
        | zero =>
          intro i hi' ν' q1 q2
          obtain rfl : i = 180 := by omega
          have r : zRn ν' 1347 180 tot := ⟨fun j j0 j1 => by rw [q2 j j0 j1]; exact h1.1 j j0 j1, by rw [← h1.2]; exact znum_congr 180 q2⟩
          have lim : tot * mid < zpw 180 := by
            have := Int.mul_le_mul_of_nonneg_left (show mid ≤ 1000000 by omega) (Int.le_of_lt t0)
            omega
          refine s_M_likelyOf_160 (a0 := 1320) (d1 := 0) (by omega) ⟨fun _ => k_M_times (c := 1347) (n := 180) (by omega) (by omega) r (by omega) (by omega) lim (fun ν2 r1 r2 => k_M_compare (c := 1347) (c1 := 1344) r2 (h2.keep (by rw [r1 1344 (by decide), q1 1344 (by decide)])) ?_), fun c => absurd (by decide) c⟩
          have n2 : ∀ q : Int, q ≠ 1347 → ν2 q = μ q := fun q hq => (r1 q hq).trans (q1 q hq)
          refine ⟨fun z => ?_, fun z => ?_⟩
          · have gt : p < tot * mid := by
              refine Decidable.byContradiction fun c => ?_
              by_cases c2 : tot * mid < p
              · rw [if_pos c2] at z; omega
              · rw [if_neg c2, if_pos (by omega)] at z; omega
            rw [zw_of (by omega) (by omega)]
            refine ih (mid - 1 - lo).toNat (by omega) lo (mid - 1) (by omega) l0 (by omega) i1 ?_ ν2 n2
            rw [show mid - 1 + 1 = mid by omega, Int.mul_comm]
            exact gt
          · have le : tot * mid ≤ p := by
              refine Decidable.byContradiction fun c => ?_
              rw [if_neg (by omega), if_neg (by omega)] at z
              omega
            refine ih (hi - mid).toNat (by omega) mid hi (by omega) (by omega) h6 ?_ i2 ν2 n2
            rw [Int.mul_comm]
            exact le
        | succ k ihk =>
          intro i hi' ν' q1 q2
          refine s_M_likelyOf_160 (a0 := 1320) (d1 := 0) (by omega) ⟨fun c => absurd c (by omega), fun _ => ⟨by omega, by omega, ?_⟩⟩
          simp only [Int.reduceAdd]
          rw [zw_of (by omega) (by omega), q1 1345 (by decide)]
          refine ihk (i + 1) (by omega) _ (fun b hb => (zup_ne hb).trans (q1 b hb)) (fun j j0 j1 => ?_)
          rw [zup_val]
          split
          · rename_i e; rw [e]
          · exact q2 j j0 (by omega)
      exact loop 180 0 rfl ν n1 (fun j j0 j1 => by omega)
theorem k_M_likelyOf {n hid hAny : Int} {hM N : Nat} {lw : Nat → Option zLaw} {Q : Int → zM → Prop} (hd : 6 ≤ d) (hR : zRB (μ 1322)) (hN : μ 1322 3 = N) (n0 : 0 ≤ n) (n1 : n < N) (hl : ∀ i : Nat, i < N → ∀ ν : zM, ν 1322 = μ 1322 → ν 1320 32 = i → zML ν (lw i)) (e52 : μ 1320 52 = hid) (hh : hM = 0 ∨ (0 ≤ hid ∧ hid < 6)) (e53 : μ 1320 53 = hM) (hM4 : hM ≤ 4) (e54 : μ 1320 54 = hAny)
    (hQ : ∀ ν, (∀ b : Int, b ≠ 1320 → ¬ (1331 ≤ b ∧ b ≤ 1335) → ¬ (1344 ≤ b ∧ b ≤ 1347) → ν b = μ b) → (∀ j : Int, j ≠ 24 → j ≠ 27 → j ≠ 28 → j ≠ 29 → j ≠ 30 → j ≠ 31 → j ≠ 32 → j ≠ 33 → j ≠ 34 → ν 1320 j = μ 1320 j) → Q (zshr9 (zcou (μ 1322) (lw n.toNat) (μ 1322 (212 + n)) hid hAny ((μ 1322 4).toNat + hM)) (ztot (fun i => zcou (μ 1322) (lw i) (μ 1322 (212 + i)) hid hAny ((μ 1322 4).toNat + hM)) N)) ν) : zCi X true l d 0 0 y_M_likelyOf [(13, 0, 1320), (0, 0, n)] μ Q := by
  have r3 := hR.2.2.2.1
  have r4 := hR.2.2.2.2.1
  obtain ⟨_, _, _, _, _, _, _, _, _, _, _, _, _, _, r14, _⟩ := id hR
  generalize hc : (fun i : Nat => zcou (μ 1322) (lw i) (μ 1322 (212 + i)) hid hAny ((μ 1322 4).toNat + hM)) = c at *
  have hc' : ∀ i : Nat, zcou (μ 1322) (lw i) (μ 1322 (212 + i)) hid hAny ((μ 1322 4).toNat + hM) = c i := fun i => by rw [← hc]
  have cb : ∀ i : Nat, i < N → 0 ≤ c i ∧ c i ≤ 100 ^ 721 := fun i hi => by
    have wb := r14 (212 + i) (by omega) (by omega)
    have b := zcou_bd (law := lw i) (hAny := hAny) (hid := hid) hR (show 0 ≤ μ 1322 (212 + i) by omega) (by omega) ((μ 1322 4).toNat + hM) (by omega)
    rw [hc' i] at b
    have := zhm_mono (m := 60 * ((μ 1322 4).toNat + hM) + 1) (n := 721) (by omega)
    omega
  have big : (100 : Int) ^ 721 * 4 * 1000000 < zpw 180 := by
    have := zhp (n := 721) (by omega)
    have e : zpw 180 = zpw 174 * zpw 6 := by rw [← zpw_add]
    have q := Int.mul_le_mul_of_nonneg_left (show (4000000 : Int) ≤ zpw 6 by decide) (Int.le_of_lt (zpw_pos 174))
    omega
  have tb : ∀ k : Nat, k ≤ N → 0 ≤ ztot c k ∧ ztot c k ≤ 100 ^ 721 * 4 := fun k hk => by
    obtain ⟨a, b, _⟩ := ztot_bd k (fun i hi => cb i (by omega))
    have := Int.mul_le_mul_of_nonneg_left (show (k : Int) ≤ 4 by omega) (show (0 : Int) ≤ 100 ^ 721 from Int.le_of_lt (Int.pow_pos (by decide)))
    omega
  have eN : lw n.toNat = lw n.toNat := rfl
  obtain ⟨nn, rfl⟩ : ∃ nn : Nat, n = nn := ⟨n.toNat, by omega⟩
  rw [Int.toNat_natCast, hc' nn] at hQ
  have P0 : (0 : Int) < 100 ^ 721 := Int.pow_pos (by decide)
  refine c_M_likelyOf (a0 := 1320) (d1 := 5) (by omega) (k_M_setTo (c := 1345) (n := 180) (by omega) (by omega) (by omega) (by decide) (by decide) (fun ν1 q1 q2 => ?_))
  have frm : ∀ ν : zM, (∀ b : Int, b ≠ 1320 → ¬ (1331 ≤ b ∧ b ≤ 1335) → ¬ (1344 ≤ b ∧ b ≤ 1347) → ν b = μ b) → (∀ j : Int, j ≠ 24 → j ≠ 27 → j ≠ 28 → j ≠ 29 → j ≠ 30 → j ≠ 31 → j ≠ 32 → j ≠ 33 → j ≠ 34 → ν 1320 j = μ 1320 j) → ν 1322 = μ 1322 ∧ ν 1320 52 = hid ∧ ν 1320 53 = hM ∧ ν 1320 54 = hAny := fun ν a b => ⟨a _ (by decide) (by decide) (by decide), by rw [b 52 (by decide) (by decide) (by decide) (by decide) (by decide) (by decide) (by decide) (by decide) (by decide)]; exact e52, by rw [b 53 (by decide) (by decide) (by decide) (by decide) (by decide) (by decide) (by decide) (by decide) (by decide)]; exact e53, by rw [b 54 (by decide) (by decide) (by decide) (by decide) (by decide) (by decide) (by decide) (by decide) (by decide)]; exact e54⟩
  have loop : ∀ k i : Nat, i + k = N → ∀ ν : zM, (∀ b : Int, b ≠ 1320 → ¬ (1331 ≤ b ∧ b ≤ 1335) → ¬ (1344 ≤ b ∧ b ≤ 1347) → ν b = μ b) → (∀ j : Int, j ≠ 24 → j ≠ 27 → j ≠ 28 → j ≠ 29 → j ≠ 30 → j ≠ 31 → j ≠ 32 → j ≠ 33 → j ≠ 34 → ν 1320 j = μ 1320 j) → zRn ν 1345 180 (ztot c i) → zE X true l d 0 0 y_M_likelyOf 13 [some (13, 0, 1320), some (0, 0, (nn : Int)), some (0, 0, (i : Int)), none, none, none, none, none] [] ν (zri Q) := by
    intro k
    induction k with
    | zero =>
      intro i hi ν a b e
      obtain rfl : i = N := by omega
      obtain ⟨e22, f52, f53, f54⟩ := frm ν a b
      have tbn := tb i (Nat.le_refl _)
      refine s_M_likelyOf_13 (a0 := 1320) (d1 := 5) (by omega) ⟨fun _ => k_M_setTo (c := 1347) (n := 180) (by omega) (by omega) (by omega) (by decide) (by decide) (fun ν2 r1 r2 => ?_), fun c => absurd ?_ c⟩
      · refine k_M_compare (c := 1345) (c1 := 1347) (e.keep (r1 1345 (by decide))) r2 ?_
        have a2 : ∀ b : Int, b ≠ 1320 → ¬ (1331 ≤ b ∧ b ≤ 1335) → ¬ (1344 ≤ b ∧ b ≤ 1347) → ν2 b = μ b := fun b b0 b1 b2 => by rw [r1 b (fun e => b2 (by rw [e]; decide))]; exact a b b0 b1 b2
        have b2 : ∀ j : Int, j ≠ 24 → j ≠ 27 → j ≠ 28 → j ≠ 29 → j ≠ 30 → j ≠ 31 → j ≠ 32 → j ≠ 33 → j ≠ 34 → ν2 1320 j = μ 1320 j := fun j j0 j1 j2 j3 j4 j5 j6 j7 j8 => by rw [r1 1320 (by decide)]; exact b j j0 j1 j2 j3 j4 j5 j6 j7 j8
        refine ⟨fun z => ?_, fun z => ?_⟩
        · have tp : 0 < ztot c i := by
            refine Decidable.byContradiction fun q => ?_
            rw [if_neg (by omega), if_pos (by omega)] at z
            exact z rfl
          obtain ⟨y22, y52, y53, y54⟩ := frm ν2 a2 b2
          refine k_findCount (law := lw nn) (n := (nn : Int)) (by omega) (by rw [y22]; exact hR) (by omega) (by rw [y22]; omega) (fun ν' p q => hl nn (by omega) ν' (by rw [p, y22]) q) y52 hh y53 hM4 y54 (fun ν8 s1 s2 s3 => ?_)
          rw [y22, hc' nn] at s3
          have cn := cb nn (by omega)
          have lim : c nn * 1000000 < zpw 180 := by omega
          refine k_M_times (c := 1344) (n := 180) (by omega) (by omega) s3 (by omega) (by omega) lim (fun ν10 w1 w2 => ?_)
          have ct := (ztot_bd i (fun j hj => cb j (by omega))).2.2 nn (by omega)
          refine k_lik143 (μ := ν10) (tot := ztot c i) (p := c nn * 1000000) (by omega) tp (by omega) (fun ν11 v1 => ?_) ((e.keep (r1 1345 (by decide))).keep (by rw [w1 1345 (by decide), s1 1345 (by decide) (by decide) (by decide) (by decide)])) w2 1000000 0 1000000 (by decide) (by decide) (by decide) (by omega) ?_ ν10 (fun _ _ => rfl)
          · have := hQ ν11 (fun b b0 b1 b2 => by rw [v1 b (fun e => b2 (by rw [e]; decide)), w1 b (fun e => b2 (by rw [e]; decide)), s1 b b0 b1 (fun e => b2 (by rw [e]; decide)) (fun e => b2 (by rw [e]; decide))]; exact a2 b b0 b1 b2) (fun j j0 j1 j2 j3 j4 j5 j6 j7 j8 => by rw [v1 1320 (by decide), w1 1320 (by decide), s2 j j0 j1 j2 j3 j4 j5 j6 j7 j8]; exact b2 j j0 j1 j2 j3 j4 j5 j6 j7 j8)
            unfold zshr9 at this
            rw [if_neg (by omega)] at this
            exact this
          · have := Int.mul_le_mul_of_nonneg_right ct (show (0 : Int) ≤ 1000000 by decide)
            rw [Int.add_mul, Int.one_mul, Int.mul_comm 1000000 (ztot c i)]
            omega
        · have tz : ztot c i = 0 := by
            refine Decidable.byContradiction fun q => ?_
            rw [if_neg (by omega), if_neg q] at z
            omega
          have := hQ ν2 a2 b2
          unfold zshr9 at this
          rw [if_pos tz] at this
          exact this
      · simp only [Int.reduceAdd]
        rw [e22]; omega
    | succ k ih =>
      intro i hi ν a b e
      obtain ⟨e22, f52, f53, f54⟩ := frm ν a b
      refine s_M_likelyOf_13 (a0 := 1320) (d1 := 5) (by omega) ⟨fun c => absurd c ?_, fun _ => ?_⟩
      · simp only [Int.reduceAdd]
        rw [e22]; omega
      · refine k_findCount (law := lw i) (n := (i : Int)) (by omega) (by rw [e22]; exact hR) (by omega) (by rw [e22]; omega) (fun ν' p q => hl i (by omega) ν' (by rw [p, e22]) q) f52 hh f53 hM4 f54 (fun ν8 s1 s2 s3 => ?_)
        rw [e22, hc' i] at s3
        have t1 := tb i (by omega)
        have t2 := cb i (by omega)
        refine k_tot33 (e.keep (s1 1345 (by decide) (by decide) (by decide) (by decide))) s3 (by omega) (fun ν9 w1 w2 => ?_)
        rw [zw_of (by omega) (by omega)]
        refine ih (i + 1) (by omega) ν9 (fun b b0 b1 b2 => by rw [w1 b (fun e => b2 (by rw [e]; decide)), s1 b b0 b1 (fun e => b2 (by rw [e]; decide)) (fun e => b2 (by rw [e]; decide))]; exact a b b0 b1 b2) (fun j j0 j1 j2 j3 j4 j5 j6 j7 j8 => by rw [w1 1320 (by decide), s2 j j0 j1 j2 j3 j4 j5 j6 j7 j8]; exact b j j0 j1 j2 j3 j4 j5 j6 j7 j8) w2
  exact loop N 0 (by omega) ν1 (fun b b0 b1 b2 => q1 b (fun e => b2 (by rw [e]; decide))) (fun j _ _ _ _ _ _ _ _ _ => by rw [q1 1320 (by decide)]) q2
end

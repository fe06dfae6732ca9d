/-! EACH: the reference spreads one state -/
def zAr (μ : zM) (c : Int) (s : Nat) (v : Int) : Prop := zdig (fun k => μ c (16 * (s : Int) + k)) 16 ∧ znum (fun k => μ c (16 * (s : Int) + k)) 16 = v
theorem zAr.keep {μ ν : zM} {c v : Int} {s : Nat} (h : zAr μ c s v) (hk : ∀ k : Int, 0 ≤ k → k < 16 → ν c (16 * (s : Int) + k) = μ c (16 * (s : Int) + k)) : zAr ν c s v := by
  refine ⟨fun k k0 k1 => ?_, ?_⟩
  · have := h.1 k k0 k1
    dsimp only at this ⊢
    rw [hk k k0 k1]
    exact this
  · rw [← h.2]
    exact znum_congr 16 (fun k k0 k1 => hk k k0 k1)
theorem znum_aup {ν : zM} {c r B : Int} {i : Nat} : znum (fun k => zup ν c (B + i) r c (B + k)) (i + 1) = znum (fun k => ν c (B + k)) i + r * zpw i := by
  rw [znum_s]
  rw [zup_hit, znum_congr (g := fun k => ν c (B + k)) i (fun k k0 k1 => zup_miss (by omega))]
theorem zeSub0 : ∀ a, a < 32 → ∀ s, s < 32 → (zand (a : Nat) (zxor (s : Nat) (-1)) = 0 ↔ ∀ p, p < 5 → (zand (zshr (a : Nat) (p : Nat)) 1 = 1 → zand (zshr (s : Nat) (p : Nat)) 1 = 1)) := by decide +kernel
theorem zeSub {s : Int} {a : Nat} (ha : a < 32) (h : 0 ≤ s ∧ s < 32) : zand (a : Nat) (zxor s (-1)) = 0 ↔ ∀ p : Nat, p < 5 → (zand (zshr (a : Nat) (p : Nat)) 1 = 1 → zand (zshr s (p : Nat)) 1 = 1) := by
  have := zeSub0 a ha s.toNat (by omega)
  rw [Int.toNat_of_nonneg h.1] at this
  exact this
theorem zeb_top : ∀ m, m < 6 → ∀ go, go < 2 ^ m → ∀ p, p < 5 → m ≤ p → ¬ zand (zshr (go : Nat) (p : Nat)) 1 = 1 := by decide +kernel
theorem zshl_pow : ∀ m, m < 6 → zshl 1 (m : Nat) = ((2 ^ m : Nat) : Int) := by decide +kernel
theorem zeS_b {k m t : Nat} (hm : m ≤ 5) : (0 ≤ zeS k m t ∧ zeS k m t < 32) ∧ ∀ p : Nat, p < 5 → (zand (zshr (zeS k m t) (p : Nat)) 1 = 1 ↔ (p < m ∧ zeF t p = k)) := by
  have := zmsk_b (f := fun p => decide (zeF t p.toNat = k)) m hm
  refine ⟨this.1, fun p hp => (this.2 p hp).trans ?_⟩
  rw [decide_eq_true_iff, Int.toNat_natCast]
theorem zeS_s {k m t : Nat} : zeS k (m + 1) t = zor (zeS k m t) (if zeF t m = k then zshl 1 m else 0) := by
  show zor _ (if decide (zeF t (m : Int).toNat = k) = true then _ else _) = _
  rw [Int.toNat_natCast]
  congr 1
  by_cases c : zeF t m = k
  · rw [if_pos c, if_pos (decide_eq_true c)]
  · rw [if_neg c, if_neg (fun e => c (of_decide_eq_true e))]
theorem zpow3 {m : Nat} (h : m ≤ 5) : 3 ^ m ≤ 243 := Nat.pow_le_pow_right (n := 3) (by decide) h
theorem zpow2 {m : Nat} (h : m ≤ 5) : 2 ^ m ≤ 32 := Nat.pow_le_pow_right (n := 2) (by decide) h
section
variable {X : zX} {l : Launch} {d : Nat} {μ : zM}
theorem k_M_figure {t p : Nat} {Q : Int → zM → Prop} (ht : t < 243) (hp : p ≤ 5) (hQ : Q (zeF t p : Nat) μ) : zCi X true l d 0 0 y_M_figure [(0, 0, (t : Int)), (0, 0, (p : Int))] μ Q := by
  refine c_M_figure ?_
  have loop : ∀ k i : Nat, i + k = p → zE X true l d 0 0 y_M_figure 4 [none, some (0, 0, (p : Int)), some (0, 0, ((t / 3 ^ i : Nat) : Int)), some (0, 0, (i : Int))] [] μ (zri Q) := by
    intro k
    induction k with
    | zero =>
      intro i hi
      obtain rfl : i = p := by omega
      refine s_M_figure_4 ⟨fun _ => ?_, fun c => absurd (by omega) c⟩
      have hle : t / 3 ^ i ≤ t := Nat.div_le_self _ _
      show Q (zremi ((t / 3 ^ i : Nat) : Int) 3) μ
      have e : zremi ((t / 3 ^ i : Nat) : Int) 3 = (zeF t i : Nat) := by
        unfold zeF
        generalize t / 3 ^ i = q at hle ⊢
        rw [zremi_of (by omega) (by omega) (by decide) (by decide)]
        omega
      rw [e]
      exact hQ
    | succ k ih =>
      intro i hi
      have hle : t / 3 ^ i ≤ t := Nat.div_le_self _ _
      refine s_M_figure_4 ⟨fun c => absurd c (by omega), fun _ => ?_⟩
      have e : zdivi ((t / 3 ^ i : Nat) : Int) 3 = ((t / 3 ^ (i + 1) : Nat) : Int) := by
        rw [Nat.pow_succ, ← Nat.div_div_eq_div_mul]
        generalize t / 3 ^ i = q at hle ⊢
        rw [zdivi_of (by omega) (by omega) (by decide) (by decide)]
        omega
      rw [e, zw_of (by omega) (by omega)]
      exact ih (i + 1) (by omega)
  have := loop p 0 (by omega)
  rw [Nat.pow_zero, Nat.div_one] at this
  exact this
theorem k_addThen {u : Nat} {a b : Int} {Q : zM → Prop} (hu : u < 243) (h1 : zAr μ 1337 u a) (h2 : zRn μ 1335 16 b) (hv : a + b < zpw 16) (hQ : ∀ ν, (∀ q : Int, q ≠ 1337 → ν q = μ q) → (∀ j : Int, ¬ (16 * (u : Int) ≤ j ∧ j < 16 * (u : Int) + 16) → ν 1337 j = μ 1337 j) → zAr ν 1337 u (a + b) → Q ν) : zCv X true l d 0 0 y_M_addThen [(13, 0, 1320), (0, 0, (u : Int))] μ Q := by
  refine c_M_addThen ?_
  have loop : ∀ k i : Nat, i + k = 16 → ∀ (ν : zM) (c : Int), (∀ q : Int, q ≠ 1337 → ν q = μ q) → (∀ j : Int, ¬ (16 * (u : Int) ≤ j ∧ j < 16 * (u : Int) + i) → ν 1337 j = μ 1337 j) → zdig (fun k => ν 1337 (16 * (u : Int) + k)) 16 → 0 ≤ c → c ≤ 1 → znum (fun k => ν 1337 (16 * (u : Int) + k)) i + c * zpw i = znum (fun k => μ 1337 (16 * (u : Int) + k)) i + znum (μ 1335) i → zE X true l d 0 0 y_M_addThen 5 [some (13, 0, 1320), some (0, 0, (u : Int)), some (1, 0, c), none, some (0, 0, (i : Int)), none, none] [] ν (zrn Q) := by
    intro k
    induction k with
    | zero =>
      intro i hi ν c n1 n2 n3 c0 c1 hc
      obtain rfl : i = 16 := by omega
      rw [h1.2, h2.2] at hc
      have b1 := znum_bd 16 n3
      have cz : c = 0 := by
        by_cases e : c = 0
        · exact e
        · have e1 : c = 1 := by omega
          rw [e1, Int.one_mul] at hc
          omega
      rw [cz, Int.zero_mul, Int.add_zero] at hc
      exact s_M_addThen_5 ⟨fun _ => hQ ν n1 n2 ⟨n3, hc⟩, fun c => absurd (by decide) c⟩
    | succ k ih =>
      intro i hi ν c n1 n2 n3 c0 c1 hc
      have e1 : ν 1337 (16 * (u : Int) + i) = μ 1337 (16 * (u : Int) + i) := n2 _ (by omega)
      have f1 := h1.1 i (by omega) (by omega)
      have f2 := h2.1 i (by omega) (by omega)
      dsimp only at f1
      have wu : zw (zw (16 * (u : Int)) + i) = 16 * (u : Int) + i := by rw [zw_of (x := 16 * (u : Int)) (by omega) (by omega), zw_of (by omega) (by omega)]
      refine s_M_addThen_5 (a0 := 1320) ⟨fun c => absurd c (by omega), fun _ => ⟨by rw [wu]; omega, by omega, by rw [wu]; omega, ?_⟩⟩
      simp only [Int.reduceAdd]
      rw [wu, e1, n1 1335 (by decide), zwl_id (x := μ 1337 (16 * (u : Int) + i) + μ 1335 i) (by omega) (by omega), zwl_id (by omega) (by omega), zdivl_of (by omega) (by omega) (by decide) (by decide), zreml_of (by omega) (by omega) (by decide) (by decide), zw_of (x := (i : Int) + 1) (by omega) (by omega)]
      refine ih (i + 1) (by omega) _ _ (fun b hb => (zup_ne hb).trans (n1 b hb)) (fun j hj => (zup_miss (by omega)).trans (n2 j (by omega))) (fun j j0 j1 => ?_) (by omega) (by omega) ?_
      · dsimp only
        rw [zup_val]
        split
        · omega
        · exact n3 j j0 j1
      · rw [znum_aup, zpw_succ]
        rw [zcarry (F := znum (fun k => μ 1337 (16 * (u : Int) + k)) i + znum (μ 1335) i) (c := c) (t := μ 1337 (16 * (u : Int) + i) + μ 1335 i) hc (by omega), znum_s, znum_s]
        have : ∀ A B x y p : Int, A + B + (x + y) * p = A + x * p + (B + y * p) := fun A B x y p => by grind
        exact this _ _ _ _ _
  exact loop 16 0 rfl μ 0 (fun _ _ => rfl) (fun _ _ => rfl) h1.1 (by omega) (by omega) (by rw [show znum (μ 1335) 0 = 0 from rfl, show znum (fun k => μ 1337 (16 * (u : Int) + k)) 0 = 0 from rfl, Int.zero_mul])
end

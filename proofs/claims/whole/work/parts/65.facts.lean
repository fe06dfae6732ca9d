/-! what a person can tell: facts, by data δ: 0 paidHow 1 paidFrom 2 sees 3 hears 4 friends 5 6 7 traits 8 askedFrom (by person), 9 size (by glance), 10 many -/
theorem zand_bd {a : Int} (b : Int) (h0 : 0 ≤ a) (h1 : a < 32) : 0 ≤ zand a b ∧ zand a b < 32 := by
  unfold zand
  obtain ⟨n, rfl⟩ : ∃ n : Nat, a = n := ⟨a.toNat, by omega⟩
  generalize Int32.ofInt b = y
  have h2 : (Int32.ofInt (n : Int) &&& y).toInt = (BitVec.ofNat 32 n &&& y.toBitVec).toInt := rfl
  have h3 : (BitVec.ofNat 32 n &&& y.toBitVec).toNat ≤ n := by
    rw [BitVec.toNat_and, BitVec.toNat_ofNat, Nat.mod_eq_of_lt (by omega)]
    exact Nat.and_le_left
  have h4 : (BitVec.ofNat 32 n &&& y.toBitVec).toInt = (BitVec.ofNat 32 n &&& y.toBitVec).toNat := BitVec.toInt_eq_toNat_of_lt (by omega)
  rw [h2, h4]
  omega
theorem zbits_ok : ∀ n : Nat, n < 32 → ∀ x : Int, x = (n : Int) → zw (zw (zw (zw (zw (0 + zand (zshr x 0) 1) + zand (zshr x 1) 1) + zand (zshr x 2) 1) + zand (zshr x 3) 1) + zand (zshr x 4) 1) = zpop x := by
  intro n hn x hx
  subst hx
  revert n
  decide +kernel
def zoth (many p : Int) : Int := zand (zw (zshl 1 many - 1)) (zxor (zshl 1 p) (-1))
def zseen (δ : Nat → Int → Int) (p : Int) : Int := zand (δ 2 p) (zoth (δ 10 0) p)
def zfc (δ : Nat → Int → Int) (p g s go : Int) : Int → Int := fun q =>
  if q = 0 then δ 9 g else if q = 1 then zpop (zand (zseen δ p) (zxor (zor s go) (-1))) else if q = 2 then zpop (zand (zseen δ p) s) else if q = 3 then zpop (zand (zseen δ p) go) else if q = 4 then zpop (zand (zand (δ 3 p) (zoth (δ 10 0) p)) s)
  else if q = 5 then zpop (zand (zand (zseen δ p) (δ 4 p)) (zor s go)) else if q = 6 then g else if q = 7 then δ 5 p else if q = 8 then δ 6 p else if q = 9 then δ 7 p else if q = 10 then (if δ 8 p ≠ -1 ∧ δ 8 p ≤ g then 1 else 0) else if zseen δ p = 0 then 1 else 0
/-- what the data may be -/
def zDb (δ : Nat → Int → Int) : Prop := (∀ p : Int, 0 ≤ p → p < 5 → (0 ≤ δ 0 p ∧ δ 0 p ≤ 2) ∧ (0 ≤ δ 2 p ∧ δ 2 p < 32) ∧ (0 ≤ δ 3 p ∧ δ 3 p < 32) ∧ (0 ≤ δ 4 p ∧ δ 4 p < 32) ∧ (0 ≤ δ 5 p ∧ δ 5 p ≤ 9) ∧ (0 ≤ δ 6 p ∧ δ 6 p ≤ 9) ∧ (0 ≤ δ 7 p ∧ δ 7 p ≤ 9)) ∧ (∀ g : Int, 0 ≤ g → g < 12 → 0 ≤ δ 9 g ∧ δ 9 g ≤ 99) ∧ 0 ≤ δ 10 0 ∧ δ 10 0 ≤ 5
/-- the Scene holds the data -/
def zCd (μ : zM) (δ : Nat → Int → Int) : Prop := (∀ p : Int, 0 ≤ p → p < 5 → μ 108 p = δ 0 p ∧ μ 109 p = δ 1 p ∧ μ 110 p = δ 2 p ∧ μ 111 p = δ 3 p ∧ μ 117 p = δ 4 p ∧ μ 114 p = δ 5 p ∧ μ 115 p = δ 6 p ∧ μ 116 p = δ 7 p ∧ μ 112 p = δ 8 p) ∧ (∀ g : Int, 0 ≤ g → g < 12 → μ 118 g = δ 9 g) ∧ μ 107 0 = δ 10 0
theorem zCd.keep {μ ν : zM} {δ : Nat → Int → Int} (h : zCd μ δ) (hk : ∀ b : Int, 107 ≤ b → b ≤ 118 → ν b = μ b) : zCd ν δ := by
  unfold zCd
  rw [hk 107 (by decide) (by decide), hk 108 (by decide) (by decide), hk 109 (by decide) (by decide), hk 110 (by decide) (by decide), hk 111 (by decide) (by decide), hk 112 (by decide) (by decide), hk 114 (by decide) (by decide), hk 115 (by decide) (by decide), hk 116 (by decide) (by decide), hk 117 (by decide) (by decide), hk 118 (by decide) (by decide)]
  exact h
theorem zpop_bd : ∀ n : Nat, n < 32 → 0 ≤ zpop n ∧ zpop n ≤ 5 := by decide
theorem zpop_bd' {x : Int} (h0 : 0 ≤ x) (h1 : x < 32) : 0 ≤ zpop x ∧ zpop x ≤ 5 := by
  have := zpop_bd x.toNat (by omega)
  rwa [Int.toNat_of_nonneg h0] at this
def zGF (F : Int → Int) : Prop := ∀ q : Int, 0 ≤ q → q < 12 → 0 ≤ F q ∧ F q ≤ 99
theorem zfc_gf {δ : Nat → Int → Int} {p g s go : Int} (h : zDb δ) (p0 : 0 ≤ p) (p1 : p < 5) (g0 : 0 ≤ g) (g1 : g < 12) : zGF (zfc δ p g s go) := by
  obtain ⟨a0, a2, a3, a4, a5, a6, a7⟩ := h.1 p p0 p1
  have hs := zand_bd (zoth (δ 10 0) p) a2.1 a2.2
  have hh := zand_bd (zoth (δ 10 0) p) a3.1 a3.2
  have b1 := zand_bd (zxor (zor s go) (-1)) hs.1 hs.2
  have b2 := zand_bd s hs.1 hs.2
  have b3 := zand_bd go hs.1 hs.2
  have b4 := zand_bd s hh.1 hh.2
  have b5 := zand_bd (δ 4 p) hs.1 hs.2
  have b6 := zand_bd (zor s go) b5.1 b5.2
  have c1 := zpop_bd' b1.1 b1.2
  have c2 := zpop_bd' b2.1 b2.2
  have c3 := zpop_bd' b3.1 b3.2
  have c4 := zpop_bd' b4.1 b4.2
  have c6 := zpop_bd' b6.1 b6.2
  have c9 := h.2.1 g g0 g1
  intro q q0 q1
  unfold zfc zseen
  repeat' split
  all_goals omega
section
variable {X : zX} {l : Launch} {d : Nat} {μ : zM} {δ : Nat → Int → Int} {p g s go : Int}
theorem k_M_bits {x : Int} {Q : Int → zM → Prop} (h0 : 0 ≤ x) (h1 : x < 32) (h : Q (zpop x) μ) : zCi X true l d 0 0 y_M_bits [(0, 0, x)] μ Q := by
  refine c_M_bits (s_M_bits_4 ⟨fun c => absurd c (by decide), fun _ => ?_⟩)
  have w : ∀ i : Nat, i < 10 → zw ((i : Int) + 1) = ((i + 1 : Nat) : Int) := by decide
  refine s_M_bits_4 ⟨fun c => absurd c (by decide), fun _ => ?_⟩
  refine s_M_bits_4 ⟨fun c => absurd c (by decide), fun _ => ?_⟩
  refine s_M_bits_4 ⟨fun c => absurd c (by decide), fun _ => ?_⟩
  refine s_M_bits_4 ⟨fun c => absurd c (by decide), fun _ => ?_⟩
  refine s_M_bits_4 ⟨fun _ => ?_, fun c => absurd (by decide) c⟩
  have e := zbits_ok x.toNat (by omega) x (by omega)
  have e1 : zw (0 + 1) = 1 := by decide
  have e2 : zw (1 + 1) = 2 := by decide
  have e3 : zw (2 + 1) = 3 := by decide
  have e4 : zw (3 + 1) = 4 := by decide
  rw [e1, e2, e3, e4, e]
  exact h
theorem k_gather {Q : zM → Prop} (hd : 1 ≤ d) (hC : zCd μ δ) (hD : zDb δ) (p0 : 0 ≤ p) (p1 : p < 5) (g0 : 0 ≤ g) (g1 : g < 12) (hQ : ∀ ν, (∀ b : Int, b ≠ 119 → ν b = μ b) → (∀ q : Int, 0 ≤ q → q < 12 → ν 119 q = zfc δ p g s go q) → Q ν) : zCv X true l d 0 0 y_Scene_gather [(10, 0, 106), (0, 0, p), (0, 0, g), (0, 0, s), (0, 0, go)] μ Q := by
  obtain ⟨a0, a2, a3, a4, a5, a6, a7⟩ := hD.1 p p0 p1
  have hs := zand_bd (zoth (δ 10 0) p) a2.1 a2.2
  have hh := zand_bd (zoth (δ 10 0) p) a3.1 a3.2
  have b1 := zand_bd (zxor (zor s go) (-1)) hs.1 hs.2
  have b2 := zand_bd s hs.1 hs.2
  have b3 := zand_bd go hs.1 hs.2
  have b4 := zand_bd s hh.1 hh.2
  have b5 := zand_bd (δ 4 p) hs.1 hs.2
  have b6 := zand_bd (zor s go) b5.1 b5.2
  obtain ⟨c0, c1, c2, c3, c4, c5, c6, c7, c8⟩ := hC.1 p p0 p1
  have c9 := hC.2.1 g g0 g1
  have c10 := hC.2.2
  have hp : (0 : Int) ≤ p ∧ p < 5 := ⟨p0, p1⟩
  unfold zoth at hs hh b1 b2 b3 b4 b5 b6
  refine c_Scene_gather (a0 := 106) (d1 := 0) (by omega) ?_
  simp only [Int.reduceAdd, Int.reduceMul]
  rw [c2, c10, c9]
  refine ⟨hp, ⟨g0, g1⟩, k_bitCount b1.1 b1.2 (k_bitCount b2.1 b2.2 (k_bitCount b3.1 b3.2 ⟨hp, ?_⟩))⟩
  rw [zup_ne (show (111 : Int) ≠ 119 by decide), zup_ne (show (111 : Int) ≠ 119 by decide), zup_ne (show (111 : Int) ≠ 119 by decide), zup_ne (show (111 : Int) ≠ 119 by decide), c3]
  refine k_bitCount b4.1 b4.2 ⟨hp, ?_⟩
  rw [zup_ne (show (117 : Int) ≠ 119 by decide), zup_ne (show (117 : Int) ≠ 119 by decide), zup_ne (show (117 : Int) ≠ 119 by decide), zup_ne (show (117 : Int) ≠ 119 by decide), zup_ne (show (117 : Int) ≠ 119 by decide), c4]
  refine k_bitCount b6.1 b6.2 ⟨hp, hp, hp, hp, ?_⟩
  simp only [zup_ne (show (114 : Int) ≠ 119 by decide), zup_ne (show (115 : Int) ≠ 119 by decide), zup_ne (show (116 : Int) ≠ 119 by decide), zup_ne (show (112 : Int) ≠ 119 by decide), c5, c6, c7, c8]
  have fin : ∀ w : Int, w = (if δ 8 p ≠ -1 ∧ δ 8 p ≤ g then 1 else 0) → zE X true l d 0 0 y_Scene_gather 226 [some (10, 0, 106), none, none, none, none, none, some (0, 0, zand (δ 2 p) (zand (zw (zshl 1 (δ 10 0) - 1)) (zxor (zshl 1 p) (-1))))] [(0, 0, w), (0, 0, 10), (14, 12, 119)] (zup (zup (zup (zup (zup (zup (zup (zup (zup (zup μ 119 0 (δ 9 g)) 119 1 (zpop (zand (zand (δ 2 p) (zand (zw (zshl 1 (δ 10 0) - 1)) (zxor (zshl 1 p) (-1)))) (zxor (zor s go) (-1))))) 119 2 (zpop (zand (zand (δ 2 p) (zand (zw (zshl 1 (δ 10 0) - 1)) (zxor (zshl 1 p) (-1)))) s))) 119 3 (zpop (zand (zand (δ 2 p) (zand (zw (zshl 1 (δ 10 0) - 1)) (zxor (zshl 1 p) (-1)))) go))) 119 4 (zpop (zand (zand (δ 3 p) (zand (zw (zshl 1 (δ 10 0) - 1)) (zxor (zshl 1 p) (-1)))) s))) 119 5 (zpop (zand (zand (zand (δ 2 p) (zand (zw (zshl 1 (δ 10 0) - 1)) (zxor (zshl 1 p) (-1)))) (δ 4 p)) (zor s go)))) 119 6 g) 119 7 (δ 5 p)) 119 8 (δ 6 p)) 119 9 (δ 7 p)) (zrn Q) := fun w hw => by
    refine s_Scene_gather_226 ⟨by omega, hQ _ (fun b hb => ?_) (fun q q0 q1 => ?_)⟩
    · show zup (zup _ 119 10 w) 119 11 _ b = _
      rw [zup_ne hb, zup_ne hb, zup_ne hb, zup_ne hb, zup_ne hb, zup_ne hb, zup_ne hb, zup_ne hb, zup_ne hb, zup_ne hb, zup_ne hb, zup_ne hb]
    · show zup (zup _ 119 10 w) 119 11 _ 119 q = _
      simp only [zup_val]
      have : q = 0 ∨ q = 1 ∨ q = 2 ∨ q = 3 ∨ q = 4 ∨ q = 5 ∨ q = 6 ∨ q = 7 ∨ q = 8 ∨ q = 9 ∨ q = 10 ∨ q = 11 := by omega
      rcases this with rfl | rfl | rfl | rfl | rfl | rfl | rfl | rfl | rfl | rfl | rfl | rfl <;> (simp [zfc, zseen, zoth, hw] <;> congr)
  refine ⟨fun c => fin _ ?_, fun c => ⟨hp, fun c' => fin _ ?_, fun c' => fin _ ?_⟩⟩
  · rw [if_neg (fun q => q.1 c)]
  · rw [if_neg (fun q => by omega)]
  · rw [if_pos ⟨c, by omega⟩]
end

/-! tellOf -/
def zMd (ρ : Int → Int) (P m bs al : Int) (n : Nat) (p : Int) : Int := match n with
  | 0 => ρ (40 + 10 * P + 2 * p)
  | 1 => ρ (41 + 10 * P + 2 * p)
  | 2 => if al = 0 then ρ (100 + 10 * P + p) else 0
  | 3 => if al = 0 then ρ (105 + 10 * P + p) else 0
  | 4 => ρ (190 + p)
  | 5 => ρ (20 + 3 * p)
  | 6 => ρ (21 + 3 * p)
  | 7 => ρ (22 + 3 * p)
  | 8 => if zand (zshr bs p) 1 = 1 then 0 else ρ (160 + 5 * P + p)
  | 9 => ρ (200 + p)
  | _ => m
theorem zMd_db {ρ : Int → Int} {P m bs al : Int} (h : zRB ρ) (P0 : 0 ≤ P) (P1 : P < 6) (m0 : 0 ≤ m) (m1 : m ≤ 5) : zDb (zMd ρ P m bs al) := by
  obtain ⟨h0, h1, h2, h3, h4, h5, h6, h7, h8, h9, h10, h11, h12, h13, _⟩ := h
  refine ⟨fun p p0 p1 => ⟨?_, ?_, ?_, ?_, ?_, ?_, ?_⟩, fun g g0 g1 => ?_, m0, m1⟩
  · have := h9 (40 + 10 * P + 2 * p) (by omega) (by omega)
    rw [if_pos (by omega)] at this
    exact this
  · show 0 ≤ (if al = 0 then ρ (100 + 10 * P + p) else 0) ∧ (if al = 0 then ρ (100 + 10 * P + p) else 0) < 32
    have := h10 (100 + 10 * P + p) (by omega) (by omega)
    split <;> omega
  · show 0 ≤ (if al = 0 then ρ (105 + 10 * P + p) else 0) ∧ (if al = 0 then ρ (105 + 10 * P + p) else 0) < 32
    have := h10 (105 + 10 * P + p) (by omega) (by omega)
    split <;> omega
  · show 0 ≤ ρ (190 + p) ∧ ρ (190 + p) < 32
    have := h12 (190 + p) (by omega) (by omega)
    omega
  · exact h8 (20 + 3 * p) (by omega) (by omega)
  · exact h8 (21 + 3 * p) (by omega) (by omega)
  · exact h8 (22 + 3 * p) (by omega) (by omega)
  · exact h13 (200 + g) (by omega) (by omega)
theorem zand_zero (b : Int) : zand 0 b = 0 := by
  have := zand_bd (a := 0) b (by decide) (by decide)
  unfold zand at *
  have h2 : (Int32.ofInt 0 &&& Int32.ofInt b).toInt = (0#32 &&& (Int32.ofInt b).toBitVec).toInt := rfl
  rw [h2, BitVec.zero_and]
  rfl
section
variable {X : zX} {l : Launch} {d : Nat} {μ : zM} {p g s go al P m bs : Int}
theorem k_tellOf {Q : zM → Prop} (hd : 1 ≤ d) (hR : zRB (μ 1322)) (hP : μ 1320 30 = P) (P0 : 0 ≤ P) (P1 : P < 6) (hm : μ 1320 31 = m) (m0 : 0 ≤ m) (m1 : m ≤ 5) (hb : μ 1320 34 = bs) (p0 : 0 ≤ p) (p1 : p < 5) (g0 : 0 ≤ g) (g1 : g < 12) (hQ : ∀ ν, (∀ b : Int, b ≠ 1331 → ν b = μ b) → (∀ q : Int, 0 ≤ q → q < 12 → ν 1331 (q + 1) = zfc (zMd (μ 1322) P m bs al) p g s go q) → Q ν) : zCv X true l d 0 0 y_M_tellOf [(13, 0, 1320), (0, 0, p), (0, 0, g), (0, 0, s), (0, 0, go), (0, 0, al)] μ Q := by
  have hD := zMd_db (bs := bs) (al := al) hR P0 P1 m0 m1
  obtain ⟨_, a2, a3, a4, a5, a6, a7⟩ := hD.1 p p0 p1
  have w1 : zw (zw (100 + zw (10 * P)) + p) = 100 + 10 * P + p := by rw [zw_of (x := 10 * P) (by omega) (by omega), zw_of (x := 100 + 10 * P) (by omega) (by omega), zw_of (by omega) (by omega)]
  have w2 : zw (zw (zw (100 + zw (10 * P)) + 5) + p) = 105 + 10 * P + p := by rw [zw_of (x := 10 * P) (by omega) (by omega), zw_of (x := 100 + 10 * P) (by omega) (by omega), zw_of (x := 100 + 10 * P + 5) (by omega) (by omega), zw_of (by omega) (by omega)]; omega
  have w3 : zw (zw (160 + zw (5 * P)) + p) = 160 + 5 * P + p := by rw [zw_of (x := 5 * P) (by omega) (by omega), zw_of (x := 160 + 5 * P) (by omega) (by omega), zw_of (by omega) (by omega)]
  have w4 : zw (200 + g) = 200 + g := zw_of (by omega) (by omega)
  have w5 : zw (190 + p) = 190 + p := zw_of (by omega) (by omega)
  have w6 : zw (20 + zw (3 * p)) = 20 + 3 * p := by rw [zw_of (x := 3 * p) (by omega) (by omega), zw_of (by omega) (by omega)]
  have w7 : zw (20 + 3 * p + 1) = 21 + 3 * p := by rw [zw_of (by omega) (by omega)]; omega
  have w8 : zw (20 + 3 * p + 2) = 22 + 3 * p := by rw [zw_of (by omega) (by omega)]; omega
  have hs := zand_bd (zoth m p) a2.1 a2.2
  have hh := zand_bd (zoth m p) a3.1 a3.2
  have b1 := zand_bd (zxor (zor s go) (-1)) hs.1 hs.2
  have b2 := zand_bd s hs.1 hs.2
  have b3 := zand_bd go hs.1 hs.2
  have b4 := zand_bd s hh.1 hh.2
  have b5 := zand_bd (μ 1322 (190 + p)) hs.1 hs.2
  have b6 := zand_bd (zor s go) b5.1 b5.2
  -- from 68 on
  have s68 : ∀ x6 xs : Int, x6 = zand (zMd (μ 1322) P m bs al 2 p) (zoth m p) → xs = zand (zMd (μ 1322) P m bs al 3 p) (zoth m p) → zE X true l d 0 0 y_M_tellOf 68 [some (13, 0, 1320), some (0, 0, p), some (0, 0, g), some (0, 0, s), some (0, 0, go), none, some (0, 0, x6), none, none] [(0, 0, xs)] μ (zrn Q) := by
    intro x6 xs hx6 hxs
    have fin : ∀ (w : Int) (ν : zM), w = (if zMd (μ 1322) P m bs al 8 p ≠ -1 ∧ zMd (μ 1322) P m bs al 8 p ≤ g then 1 else 0) → (∀ b : Int, b ≠ 1331 → ν b = μ b) → ν 1331 1 = μ 1322 (200 + g) → ν 1331 2 = zpop (zand x6 (zxor (zor s go) (-1))) → ν 1331 3 = zpop (zand x6 s) → ν 1331 4 = zpop (zand x6 go) → ν 1331 5 = zpop (zand xs s) → ν 1331 6 = zpop (zand (zand x6 (μ 1322 (190 + p))) (zor s go)) → ν 1331 7 = g → ν 1331 8 = μ 1322 (20 + 3 * p) → ν 1331 9 = μ 1322 (21 + 3 * p) → ν 1331 10 = μ 1322 (22 + 3 * p) → zE X true l d 0 0 y_M_tellOf 302 [some (13, 0, 1320), none, none, none, none, none, some (0, 0, x6), none, none] [(1, 0, w), (0, 0, 11), (15, 13, 1331)] ν (zrn Q) := by
      intro w ν hw n1 f1 f2 f3 f4 f5 f6 f7 f8 f9 f10
      refine s_M_tellOf_302 ⟨by omega, hQ _ (fun b hb => ?_) (fun q q0 q1 => ?_)⟩
      · show zup (zup _ 1331 11 w) 1331 12 _ b = _
        rw [zup_ne hb, zup_ne hb]
        exact n1 b hb
      · show zup (zup _ 1331 11 w) 1331 12 _ 1331 (q + 1) = _
        simp only [zup_val]
        have : q = 0 ∨ q = 1 ∨ q = 2 ∨ q = 3 ∨ q = 4 ∨ q = 5 ∨ q = 6 ∨ q = 7 ∨ q = 8 ∨ q = 9 ∨ q = 10 ∨ q = 11 := by omega
        rcases this with rfl | rfl | rfl | rfl | rfl | rfl | rfl | rfl | rfl | rfl | rfl | rfl
        · simp [zfc]; exact f1
        · rw [hx6] at f2; simp [zfc, zseen]; exact f2
        · rw [hx6] at f3; simp [zfc, zseen]; exact f3
        · rw [hx6] at f4; simp [zfc, zseen]; exact f4
        · rw [hxs] at f5; simp [zfc, zseen]; exact f5
        · rw [hx6] at f6; simp [zfc, zseen]; exact f6
        · simp [zfc]; exact f7
        · simp [zfc]; exact f8
        · simp [zfc]; exact f9
        · simp [zfc]; exact f10
        · simp [zfc, hw]
        · by_cases z : x6 = 0
          · have z' : zseen (zMd (μ 1322) P m bs al) p = 0 := by rw [← z, hx6]; rfl
            simp [zfc, z, z']
          · have z' : zseen (zMd (μ 1322) P m bs al) p ≠ 0 := fun q => z (by rw [hx6]; exact q)
            simp [zfc, z, z']
    have d8 : zMd (μ 1322) P m bs al 8 p = if zand (zshr bs p) 1 = 1 then 0 else μ 1322 (160 + 5 * P + p) := rfl
    rw [← hx6] at b1 b2 b3 b5 b6
    rw [← hxs] at b4
    refine s_M_tellOf_68 (a0 := 1320) (d1 := 0) (by omega) ?_
    simp only [Int.reduceAdd, hP, w3, w4, w5, w6, w7, w8]
    refine ⟨by omega, by omega, k_M_bits b1.1 b1.2 (k_M_bits b2.1 b2.2 (k_M_bits b3.1 b3.2 (k_M_bits b4.1 b4.2 ⟨by omega, ?_⟩)))⟩
    simp only [zup_ne (show (1322 : Int) ≠ 1331 by decide), zup_ne (show (1320 : Int) ≠ 1331 by decide), hb]
    refine k_M_bits b6.1 b6.2 ⟨by omega, by omega, by omega, ?_⟩
    simp only [zup_ne (show (1322 : Int) ≠ 1331 by decide), zup_ne (show (1320 : Int) ≠ 1331 by decide), hb]
    refine ⟨fun c => fin _ _ ?_ (fun b hb => ?_) ?_ ?_ ?_ ?_ ?_ ?_ ?_ ?_ ?_ ?_, fun c => ⟨fun c2 => fin _ _ ?_ (fun b hb => ?_) ?_ ?_ ?_ ?_ ?_ ?_ ?_ ?_ ?_ ?_, fun c2 => ⟨fun c3 => fin _ _ ?_ (fun b hb => ?_) ?_ ?_ ?_ ?_ ?_ ?_ ?_ ?_ ?_ ?_, fun c3 => fin _ _ ?_ (fun b hb => ?_) ?_ ?_ ?_ ?_ ?_ ?_ ?_ ?_ ?_ ?_⟩⟩⟩
    case refine_2 | refine_14 | refine_26 | refine_38 => rw [zup_ne hb, zup_ne hb, zup_ne hb, zup_ne hb, zup_ne hb, zup_ne hb, zup_ne hb, zup_ne hb, zup_ne hb, zup_ne hb]
    case refine_1 => rw [d8, if_pos c, if_pos ⟨by decide, g0⟩]
    case refine_13 => rw [d8, if_neg c, if_neg (fun q => q.1 c2)]
    case refine_25 => rw [d8, if_neg c, if_neg (fun q => by omega)]
    case refine_37 => rw [d8, if_neg c, if_pos ⟨c2, by omega⟩]
    all_goals simp [zup_val]
  have s32 : ∀ x6 : Int, x6 = zand (zMd (μ 1322) P m bs al 2 p) (zoth m p) → zE X true l d 0 0 y_M_tellOf 32 [some (13, 0, 1320), some (0, 0, p), some (0, 0, g), some (0, 0, s), some (0, 0, go), some (0, 0, al), none, none, none] [(0, 0, x6)] μ (zrn Q) := by
    intro x6 hx6
    refine s_M_tellOf_32 (a0 := 1320) (d1 := 0) (by omega) ?_
    simp only [Int.reduceAdd, hP, w2]
    refine ⟨fun e => ⟨by omega, c_M_othersThan (s68 x6 _ hx6 ?_)⟩, fun e => s68 x6 0 hx6 ?_⟩
    · show _ = zand (if al = 0 then μ 1322 (105 + 10 * P + p) else 0) (zoth m p)
      rw [if_pos e, hm]
      rfl
    · show _ = zand (if al = 0 then μ 1322 (105 + 10 * P + p) else 0) (zoth m p)
      rw [if_neg e, zand_zero]
  refine c_M_tellOf (a0 := 1320) (d1 := 0) (by omega) ?_
  simp only [Int.reduceAdd, hP, w1]
  refine ⟨fun e => ⟨by omega, c_M_othersThan (s32 _ ?_)⟩, fun e => s32 0 ?_⟩
  · show _ = zand (if al = 0 then μ 1322 (100 + 10 * P + p) else 0) (zoth m p)
    rw [if_pos e, hm]
    rfl
  · show _ = zand (if al = 0 then μ 1322 (100 + 10 * P + p) else 0) (zoth m p)
    rw [if_neg e, zand_zero]
end

/-! row -/
theorem zor_of {a b : Int} : Int32.ofInt (zor a b) = Int32.ofInt a ||| Int32.ofInt b := Int32.ofInt_toInt _
theorem zshl_of {a b : Int} : Int32.ofInt (zshl a b) = Int32.ofInt a <<< (Int32.ofInt b &&& 31) := Int32.ofInt_toInt _
theorem zshl_bv (y : Int32) {k : Int} {n : Nat} (hn : ((Int32.ofInt k &&& 31).toBitVec.smod 32).toNat = n) : (y <<< (Int32.ofInt k &&& 31)).toBitVec = y.toBitVec <<< n := by
  rw [Int32.toBitVec_shiftLeft, BitVec.shiftLeft_eq', hn]
/-- four bytes: one after another, or each at its place -/
theorem zint4 (p q r s : Int) : zor (zshl (zor (zshl (zor (zshl (zor (zshl 0 8) p) 8) q) 8) r) 8) s = zor (zor (zor (zshl p 24) (zshl q 16)) (zshl r 8)) s := by
  have e : Int32.ofInt (zor (zshl (zor (zshl (zor (zshl (zor (zshl 0 8) p) 8) q) 8) r) 8) s) = Int32.ofInt (zor (zor (zor (zshl p 24) (zshl q 16)) (zshl r 8)) s) := by
    simp only [zor_of, zshl_of]
    apply Int32.toBitVec_inj.1
    simp only [Int32.toBitVec_or, zshl_bv _ (k := 8) (n := 8) (by decide), zshl_bv _ (k := 16) (n := 16) (by decide), zshl_bv _ (k := 24) (n := 24) (by decide), BitVec.shiftLeft_or_distrib]
    have z : (Int32.ofInt 0).toBitVec = 0#32 := by decide
    rw [z]
    simp only [BitVec.zero_shiftLeft, BitVec.zero_or, ← BitVec.shiftLeft_add]
  have := congrArg Int32.toInt e
  unfold zor at this ⊢
  simpa only [Int32.ofInt_toInt] using this
def zmany (μ : zM) (a : Int) (g : Nat → Int) (f : Nat → Int) : Nat → zM
  | 0 => μ
  | k + 1 => zup (zmany μ a g f k) a (g k) (f k)
def zrwm (ρ : Int → Int) (g : Nat → Int) (f : Nat → Int) : Nat → Int → Int
  | 0 => ρ
  | k + 1 => zrw (zrwm ρ g f k) (g k) (f k)
section
variable {LR : zM → Int → (Int → Int) → Prop} {μ : zM} {X : zX} {l : Launch} {d : Nat} {Q : Int → Int → zM → Prop}
theorem zmany_ne {a b : Int} {g f : Nat → Int} (h : b ≠ a) : ∀ k, zmany μ a g f k b = μ b
  | 0 => rfl
  | k + 1 => by
    show zup (zmany μ a g f k) a (g k) (f k) b = μ b
    rw [zup_ne h, zmany_ne h k]
theorem zmany_at {a : Int} {g f : Nat → Int} : ∀ k, zmany μ a g f k a = zrwm (μ a) g f k
  | 0 => rfl
  | k + 1 => by
    show zup (zmany μ a g f k) a (g k) (f k) a = _
    rw [zup_at, zmany_at k]
    rfl
theorem zup_comm {a i v b j w : Int} (h : ¬ (a = b ∧ i = j)) : zup (zup μ a i v) b j w = zup (zup μ b j w) a i v := by
  funext c k
  unfold zup
  by_cases h1 : c = b ∧ k = j
  · by_cases h2 : c = a ∧ k = i
    · exact absurd ⟨h2.1.symm.trans h1.1, h2.2.symm.trans h1.2⟩ h
    · simp only [if_pos h1, if_neg h2]
  · simp only [if_neg h1]
/-- the four bytes of the tape at 4 g as a number, 0 unless 0 .. 99 -/
def zval (τ : Int → Int) (g : Int) : Int := zor (zor (zor (zshl (τ (4 * g)) 24) (zshl (τ (4 * g + 1)) 16)) (zshl (τ (4 * g + 2)) 8)) (τ (4 * g + 3))
def zsz (τ : Int → Int) (g : Int) : Int := if 0 ≤ zval τ g ∧ zval τ g ≤ 99 then zval τ g else 0
theorem zsz_ok {τ : Int → Int} {g : Int} : 0 ≤ zsz τ g ∧ zsz τ g ≤ 99 := by
  unfold zsz
  split <;> omega
theorem k_S_tapedInt {g : Int} {Q : Int → zM → Prop} (h0 : 0 ≤ g) (h1 : g < 100) (h : Q (zval (μ 89) g) μ) : zCi X true l d 0 0 y_S_tapedInt [(12, 0, 0), (0, 0, 4 * g)] μ Q := by
  refine c_S_tapedInt ?_
  have st : ∀ {y z : Int}, 4 * g ≤ y → y < 4 * g + 4 → zE X true l d 0 0 y_S_tapedInt 4 [some (12, 0, 0), some (0, 0, 4 * g), some (0, 0, zor (zshl z 8) (μ 89 y)), some (0, 0, y + 1)] [] μ (zri Q) → zE X true l d 0 0 y_S_tapedInt 4 [some (12, 0, 0), some (0, 0, 4 * g), some (0, 0, z), some (0, 0, y)] [] μ (zri Q) := fun {y z} a b k => by
    refine s_S_tapedInt_4 ?_
    rw [zw_of (x := 4 * g + 4) (by omega) (by omega), zw_of (x := y + 1) (by omega) (by omega)]
    exact ⟨fun q => absurd q (by omega), fun _ => ⟨fun q => absurd q (by omega), fun _ => ⟨⟨by omega, by omega⟩, k⟩⟩⟩
  refine st (by omega) (by omega) (st (by omega) (by omega) (st (by omega) (by omega) (st (by omega) (by omega) ?_)))
  refine s_S_tapedInt_4 ?_
  rw [zw_of (x := 4 * g + 4) (by omega) (by omega)]
  refine ⟨fun _ => ?_, fun q => absurd (by omega) q⟩
  rw [zint4, show 4 * g + 1 + 1 = 4 * g + 2 by omega, show 4 * g + 2 + 1 = 4 * g + 3 by omega]
  exact h
end

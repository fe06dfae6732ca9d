/-! worlds: sets of persons as bits -/
def zbt (x p : Int) : Prop := zand (zshr x p) 1 = 1
theorem zb_or0 : ∀ a : Nat, a < 32 → ∀ b : Nat, b < 32 → (0 ≤ zor (a : Int) (b : Int) ∧ zor (a : Int) (b : Int) < 32) ∧ ∀ p : Nat, p < 5 → (zand (zshr (zor (a : Int) (b : Int)) (p : Int)) 1 = 1 ↔ (zand (zshr (a : Int) (p : Int)) 1 = 1 ∨ zand (zshr (b : Int) (p : Int)) 1 = 1)) := by decide +kernel
theorem zb_shl0 : ∀ q : Nat, q < 5 → (0 ≤ zshl 1 (q : Int) ∧ zshl 1 (q : Int) < 32) ∧ ∀ p : Nat, p < 5 → (zand (zshr (zshl 1 (q : Int)) (p : Int)) 1 = 1 ↔ p = q) := by decide +kernel
theorem zb_ext0 : ∀ a : Nat, a < 32 → ∀ b : Nat, b < 32 → (∀ p : Nat, p < 5 → (zand (zshr (a : Int) (p : Int)) 1 = 1 ↔ zand (zshr (b : Int) (p : Int)) 1 = 1)) → a = b := by decide +kernel
theorem zb_z0 : ∀ p : Nat, p < 5 → ¬ zand (zshr 0 (p : Int)) 1 = 1 := by decide +kernel
theorem zb_or {a b : Int} (a0 : 0 ≤ a ∧ a < 32) (b0 : 0 ≤ b ∧ b < 32) : (0 ≤ zor a b ∧ zor a b < 32) ∧ ∀ p : Nat, p < 5 → (zbt (zor a b) p ↔ (zbt a p ∨ zbt b p)) := by
  have := zb_or0 a.toNat (by omega) b.toNat (by omega)
  rw [Int.toNat_of_nonneg a0.1, Int.toNat_of_nonneg b0.1] at this
  exact this
theorem zb_ext {a b : Int} (a0 : 0 ≤ a ∧ a < 32) (b0 : 0 ≤ b ∧ b < 32) (h : ∀ p : Nat, p < 5 → (zbt a p ↔ zbt b p)) : a = b := by
  have := zb_ext0 a.toNat (by omega) b.toNat (by omega)
  rw [Int.toNat_of_nonneg a0.1, Int.toNat_of_nonneg b0.1] at this
  have := this h
  omega
def zmsk (f : Int → Bool) : Nat → Int
  | 0 => 0
  | n + 1 => zor (zmsk f n) (if f n = true then zshl 1 n else 0)
theorem zmsk_b {f : Int → Bool} : ∀ n : Nat, n ≤ 5 → (0 ≤ zmsk f n ∧ zmsk f n < 32) ∧ ∀ p : Nat, p < 5 → (zbt (zmsk f n) p ↔ (p < n ∧ f p = true))
  | 0, _ => by
    refine ⟨by unfold zmsk; omega, fun p hp => ⟨fun q => absurd q (zb_z0 p hp), fun q => by omega⟩⟩
  | n + 1, h => by
    have ih := zmsk_b (f := f) n (by omega)
    unfold zmsk
    by_cases c : f n = true
    · rw [if_pos c]
      have sh := zb_shl0 n (by omega)
      have o := zb_or ih.1 sh.1
      refine ⟨o.1, fun p hp => ?_⟩
      rw [o.2 p hp, ih.2 p hp]
      have s2 := sh.2 p hp
      constructor
      · rintro (⟨q1, q2⟩ | q)
        · exact ⟨by omega, q2⟩
        · have e := s2.mp q
          rw [e]; exact ⟨by omega, c⟩
      · rintro ⟨q1, q2⟩
        by_cases e : p = n
        · exact Or.inr (s2.mpr e)
        · exact Or.inl ⟨by omega, q2⟩
    · rw [if_neg c]
      have o := zb_or ih.1 (show (0 : Int) ≤ 0 ∧ (0 : Int) < 32 by decide)
      refine ⟨o.1, fun p hp => ?_⟩
      rw [o.2 p hp, ih.2 p hp]
      constructor
      · rintro (⟨q1, q2⟩ | q)
        · exact ⟨by omega, q2⟩
        · exact absurd q (zb_z0 p hp)
      · rintro ⟨q1, q2⟩
        by_cases e : p = n
        · rw [e] at q2; exact absurd q2 c
        · exact Or.inl ⟨by omega, q2⟩
/-- one world: the draws of one glance, of all -/
def zdrw (ch : Int → Int) (g : Int) : Nat → Int × (Int → Int) → Int × (Int → Int)
  | 0, s => s
  | p + 1, s => if (zdrw ch g p s).2 p ≠ -1 then zdrw ch g p s else if ch p ≤ ((zdrw ch g p s).1 * 1103 + 12345) % 1000003 % 100 then (((zdrw ch g p s).1 * 1103 + 12345) % 1000003, (zdrw ch g p s).2) else (((zdrw ch g p s).1 * 1103 + 12345) % 1000003, zsu (zdrw ch g p s).2 p g)
def zSt (m : Nat) (w : Int → Int) (g : Int) : Int := zmsk (fun p => decide (w p ≠ -1 ∧ w p = g - 1)) m
def zGn (m : Nat) (w : Int → Int) (g : Int) : Int := zmsk (fun p => decide (w p ≠ -1 ∧ w p < g - 1)) m
def zwd (δ : Nat → Int → Int) (law : Option zLaw) (wo : Int) (m : Nat) : Nat → Int × (Int → Int) → Int × (Int → Int)
  | 0, s => s
  | g + 1, s => zdrw (fun p => zcha δ law wo p g (zSt m (zwd δ law wo m g s).2 g) (zGn m (zwd δ law wo m g s).2 g)) g m (zwd δ law wo m g s)
def zall (m : Nat) (w : Int → Int) : Int := zmsk (fun p => decide (w p ≠ -1)) m
/-- what holds of the draws -/
theorem zdrw_ok {ch : Int → Int} {g : Int} (g0 : 0 ≤ g) : ∀ (p : Nat) (s : Int × (Int → Int)), 0 ≤ s.1 → s.1 ≤ 1000002 → (∀ q : Int, s.2 q = -1 ∨ (0 ≤ s.2 q ∧ s.2 q < g)) → (0 ≤ (zdrw ch g p s).1 ∧ (zdrw ch g p s).1 ≤ 1000002) ∧ (∀ q : Int, (zdrw ch g p s).2 q = -1 ∨ (0 ≤ (zdrw ch g p s).2 q ∧ (zdrw ch g p s).2 q ≤ g)) ∧ (∀ q : Int, (p : Int) ≤ q → (zdrw ch g p s).2 q = s.2 q) ∧ ∀ q : Int, s.2 q ≠ -1 → (zdrw ch g p s).2 q = s.2 q
  | 0, s, h1, h2, h3 => ⟨⟨h1, h2⟩, fun q => by have := h3 q; unfold zdrw; omega, fun _ _ => rfl, fun _ _ => rfl⟩
  | p + 1, s, h1, h2, h3 => by
    obtain ⟨i1, i2, i3, i4⟩ := zdrw_ok (ch := ch) g0 p s h1 h2 h3
    unfold zdrw
    by_cases c : (zdrw ch g p s).2 p ≠ -1
    · rw [if_pos c]
      exact ⟨i1, i2, fun q hq => i3 q (by omega), i4⟩
    · rw [if_neg c]
      by_cases c2 : ch p ≤ ((zdrw ch g p s).1 * 1103 + 12345) % 1000003 % 100
      · rw [if_pos c2]
        exact ⟨by dsimp only; omega, i2, fun q hq => i3 q (by omega), i4⟩
      · rw [if_neg c2]
        refine ⟨by dsimp only; omega, fun q => ?_, fun q hq => ?_, fun q hq => ?_⟩
        · dsimp only [zsu]
          split
          · omega
          · exact i2 q
        · dsimp only [zsu]
          rw [if_neg (by omega)]
          exact i3 q (by omega)
        · dsimp only [zsu]
          split
          · rename_i e
            have := i4 q hq
            rw [e] at this
            have c' : (zdrw ch g p s).2 p = -1 := Decidable.byContradiction c
            rw [c'] at this
            rw [e] at hq
            exact absurd this.symm hq
          · exact i4 q hq
theorem zwd_ok {δ : Nat → Int → Int} {law : Option zLaw} {wo : Int} {m : Nat} : ∀ (g : Nat) (s : Int × (Int → Int)), 0 ≤ s.1 → s.1 ≤ 1000002 → (∀ q : Int, s.2 q = -1) → (0 ≤ (zwd δ law wo m g s).1 ∧ (zwd δ law wo m g s).1 ≤ 1000002) ∧ (∀ q : Int, (zwd δ law wo m g s).2 q = -1 ∨ (0 ≤ (zwd δ law wo m g s).2 q ∧ (zwd δ law wo m g s).2 q < g))
  | 0, s, h1, h2, h3 => ⟨⟨h1, h2⟩, fun q => Or.inl (h3 q)⟩
  | g + 1, s, h1, h2, h3 => by
    obtain ⟨⟨a1, a2⟩, a3⟩ := zwd_ok (δ := δ) (law := law) (wo := wo) (m := m) g s h1 h2 h3
    obtain ⟨b1, b2, _, _⟩ := zdrw_ok (ch := fun p => zcha δ law wo p g (zSt m (zwd δ law wo m g s).2 g) (zGn m (zwd δ law wo m g s).2 g)) (g := g) (by omega) m (zwd δ law wo m g s) a1 a2 a3
    unfold zwd
    refine ⟨b1, fun q => ?_⟩
    have := b2 q
    omega

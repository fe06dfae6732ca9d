/-! long numbers: digits of nine figures, the lowest first -/
theorem zdivl_of {x y : Int} (h : 0 ≤ x) (h3 : x < 9223372036854775808) (h2 : 0 < y) (h4 : y < 9223372036854775808) : zdivl x y = x / y := by
  unfold zdivl
  rw [Int64.toInt_div, Int64.toInt_ofInt_of_le (by omega) (by omega), Int64.toInt_ofInt_of_le (by omega) (by omega), Int.tdiv_eq_ediv_of_nonneg h]
  rw [Int.bmod_eq_of_le]
  · have := Int.ediv_nonneg h (by omega : 0 ≤ y); omega
  · have := Int.ediv_le_self y h; omega
theorem zreml_of {x y : Int} (h : 0 ≤ x) (h3 : x < 9223372036854775808) (h2 : 0 < y) (h4 : y < 9223372036854775808) : zreml x y = x % y := by
  have e := zdivl_of h h3 h2 h4
  have b0 := Int.emod_nonneg x (by omega : y ≠ 0)
  have b1 := Int.emod_lt_of_pos x h2
  have b2 := Int.emod_def x y
  have b3 : 0 ≤ y * (x / y) := Int.mul_nonneg (by omega) (Int.ediv_nonneg h (by omega))
  unfold zdivl at e
  unfold zreml
  rw [Int64.toInt_sub, Int64.toInt_mul, e, Int64.toInt_ofInt_of_le (by omega) (by omega), Int64.toInt_ofInt_of_le (by omega) (by omega)]
  rw [Int.mul_comm (x / y) y, Int.bmod_eq_of_le (n := y * (x / y)) (by omega) (by omega), Int.bmod_eq_of_le (by omega) (by omega)]
  omega
theorem zdivi_of {x y : Int} (h : 0 ≤ x) (h3 : x < 2147483648) (h2 : 0 < y) (h4 : y < 2147483648) : zdivi x y = x / y := by
  unfold zdivi
  rw [Int32.toInt_div, Int32.toInt_ofInt_of_le (by omega) (by omega), Int32.toInt_ofInt_of_le (by omega) (by omega), Int.tdiv_eq_ediv_of_nonneg h]
  rw [Int.bmod_eq_of_le]
  · have := Int.ediv_nonneg h (by omega : 0 ≤ y); omega
  · have := Int.ediv_le_self y h; omega
theorem zremi_of {x y : Int} (h : 0 ≤ x) (h3 : x < 2147483648) (h2 : 0 < y) (h4 : y < 2147483648) : zremi x y = x % y := by
  have e := zdivi_of h h3 h2 h4
  have b0 := Int.emod_nonneg x (by omega : y ≠ 0)
  have b1 := Int.emod_lt_of_pos x h2
  have b2 := Int.emod_def x y
  have b3 : 0 ≤ y * (x / y) := Int.mul_nonneg (by omega) (Int.ediv_nonneg h (by omega))
  unfold zdivi at e
  unfold zremi
  rw [Int32.toInt_sub, Int32.toInt_mul, e, Int32.toInt_ofInt_of_le (by omega) (by omega), Int32.toInt_ofInt_of_le (by omega) (by omega)]
  rw [Int.mul_comm (x / y) y, Int.bmod_eq_of_le (n := y * (x / y)) (by omega) (by omega), Int.bmod_eq_of_le (by omega) (by omega)]
  omega
def zpw (n : Nat) : Int := 1000000000 ^ n
theorem zpw_succ (n : Nat) : zpw (n + 1) = 1000000000 * zpw n := by
  unfold zpw
  rw [Int.pow_succ, Int.mul_comm]
theorem zpw_pos (n : Nat) : 0 < zpw n := Int.pow_pos (by decide)
theorem zpw_add (m n : Nat) : zpw (m + n) = zpw m * zpw n := Int.pow_add _ _ _
theorem zpw_mono {m n : Nat} (h : m ≤ n) : zpw m ≤ zpw n := by
  obtain ⟨k, rfl⟩ := Nat.le.dest h
  rw [zpw_add]
  have := zpw_pos m
  have := zpw_pos k
  have h1 : zpw m * 1 ≤ zpw m * zpw k := Int.mul_le_mul_of_nonneg_left (by omega) (by omega)
  omega
def znum (f : Int → Int) : Nat → Int
  | 0 => 0
  | n + 1 => znum f n + f n * zpw n
def zdig (f : Int → Int) (n : Nat) : Prop := ∀ i : Int, 0 ≤ i → i < n → 0 ≤ f i ∧ f i < 1000000000
theorem znum_congr {f g : Int → Int} : ∀ n : Nat, (∀ i : Int, 0 ≤ i → i < n → f i = g i) → znum f n = znum g n
  | 0, _ => rfl
  | n + 1, h => by
    unfold znum
    rw [znum_congr n (fun i a b => h i a (by omega)), h n (by omega) (by omega)]
theorem znum_bd {f : Int → Int} : ∀ n : Nat, zdig f n → 0 ≤ znum f n ∧ znum f n < zpw n
  | 0, _ => by unfold znum zpw; decide
  | n + 1, h => by
    have ih := znum_bd n (fun i a b => h i a (by omega))
    have hd := h n (by omega) (by omega)
    have hp := zpw_pos n
    unfold znum
    rw [zpw_succ]
    have h1 : 0 ≤ f n * zpw n := Int.mul_nonneg hd.1 (by omega)
    have h2 : f n * zpw n ≤ 999999999 * zpw n := Int.mul_le_mul_of_nonneg_right (by omega) (by omega)
    omega
theorem znum_zeros {f : Int → Int} {m : Nat} : ∀ n : Nat, m ≤ n → (∀ i : Int, m ≤ i → i < n → f i = 0) → znum f n = znum f m
  | 0, h, _ => by
    obtain rfl : m = 0 := by omega
    rfl
  | n + 1, h, hz => by
    by_cases e : m = n + 1
    · rw [e]
    · conv => lhs; unfold znum
      rw [hz n (by omega) (by omega), Int.zero_mul, Int.add_zero]
      exact znum_zeros n (by omega) (fun i a b => hz i a (by omega))
theorem znum_split (f : Int → Int) (k : Nat) : ∀ m : Nat, znum f (k + m) = znum f k + zpw k * znum (fun i => f (k + i)) m
  | 0 => by simp [znum]
  | m + 1 => by
    have ih := znum_split f k m
    rw [← Nat.add_assoc]
    simp only [znum, ih, zpw_add, Int.mul_add]
    have e : ((k + m : Nat) : Int) = (k : Int) + m := by omega
    rw [e]
    grind
theorem znum_low (f : Int → Int) (m : Nat) : znum f (m + 1) = f 0 + 1000000000 * znum (fun i => f (1 + i)) m := by
  rw [Nat.add_comm, znum_split]
  simp [znum, zpw]
theorem znum_div {f : Int → Int} {n k : Nat} (h : zdig f n) (hk : k ≤ n) : znum f n / zpw k = znum (fun i => f (k + i)) (n - k) := by
  obtain ⟨m, rfl⟩ := Nat.le.dest hk
  have hb := znum_bd k (f := f) (fun i a b => h i a (by omega))
  rw [znum_split, Nat.add_sub_cancel_left, Int.add_comm, Int.mul_comm, Int.mul_add_ediv_right _ _ (by have := zpw_pos k; omega), Int.ediv_eq_zero_of_lt hb.1 hb.2, Int.add_zero]
theorem znum_at {f : Int → Int} {n k : Nat} (h : zdig f n) (hk : k < n) : f k = znum f n / zpw k % 1000000000 := by
  rw [znum_div h (by omega)]
  obtain ⟨m, hm⟩ : ∃ m, n - k = m + 1 := ⟨n - k - 1, by omega⟩
  rw [hm, znum_low]
  have hd := h k (by omega) (by omega)
  simp only [Int.add_zero]
  omega
theorem znum_same {f g : Int → Int} {k : Nat} : ∀ n : Nat, k ≤ n → (∀ i : Int, k ≤ i → i < n → f i = g i) → znum f n - znum f k = znum g n - znum g k
  | 0, h, _ => by
    obtain rfl : k = 0 := by omega
    simp
  | n + 1, h, hz => by
    by_cases e : k = n + 1
    · rw [e]; simp
    · have ih := znum_same n (by omega) (fun i a b => hz i a (by omega))
      have e2 := hz n (by omega) (by omega)
      simp only [znum]
      rw [e2]
      omega
theorem znum_lt {f g : Int → Int} {n k : Nat} (hf : zdig f n) (hg : zdig g n) (hk : k < n) (hs : ∀ i : Int, (k : Int) < i → i < n → f i = g i) (hl : f k < g k) : znum f n < znum g n := by
  have e := znum_same (f := f) (g := g) (k := k + 1) n (by omega) (fun i a b => hs i (by omega) b)
  have b1 := znum_bd k (f := f) (fun i a b => hf i a (by omega))
  have b2 := znum_bd k (f := g) (fun i a b => hg i a (by omega))
  have h1 : (f k + 1) * zpw k ≤ g k * zpw k := Int.mul_le_mul_of_nonneg_right (by omega) (by omega)
  rw [Int.add_mul, Int.one_mul] at h1
  simp only [znum] at e
  omega
theorem znum_top {f : Int → Int} {n : Nat} {u : Nat} (h : zdig f n) (hu : u < n) (hz : f u ≠ 0) : zpw u ≤ znum f n := by
  have hd := h u (by omega) (by omega)
  have e := znum_split f (u + 1) (n - (u + 1))
  have b1 := znum_bd u (f := f) (fun i a b => h i a (by omega))
  have b2 := znum_bd (n - (u + 1)) (f := fun i => f ((u + 1 : Nat) + i)) (fun i a b => h _ (by omega) (by omega))
  have e2 : u + 1 + (n - (u + 1)) = n := by omega
  rw [e2] at e
  rw [e]
  have p1 := zpw_pos u
  have p2 := zpw_pos (u + 1)
  have h1 : 1 * zpw u ≤ f u * zpw u := Int.mul_le_mul_of_nonneg_right (by omega) (by omega)
  have h2 := Int.mul_nonneg (a := zpw (u + 1)) (by omega) b2.1
  simp only [znum]
  omega
theorem znum_eq {f g : Int → Int} {n : Nat} (hf : zdig f n) (hg : zdig g n) (h : znum f n = znum g n) : ∀ i : Int, 0 ≤ i → i < n → f i = g i := fun i h0 h1 => by
  obtain ⟨k, rfl⟩ : ∃ k : Nat, i = k := ⟨i.toNat, by omega⟩
  rw [znum_at hf (k := k) (by omega), znum_at hg (k := k) (by omega), h]

/-! EACH: states of the others as figures by three; sums -/
def zeF (t p : Nat) : Nat := t / 3 ^ p % 3
def zeS (k m t : Nat) : Int := zmsk (fun p => decide (zeF t p.toNat = k)) m
def zeH (f : Nat → Nat) : Nat → Nat → Nat
  | _, 0 => 0
  | k, n + 1 => 3 * zeH f (k + 1) n + f k
def zeD (t : Nat) (go : Int) (p : Nat) : Nat := if zeF t p = 0 then (if zand (zshr go p) 1 = 1 then 1 else 0) else 2
def zeG (m t : Nat) (go : Int) : Nat := zeH (zeD t go) 0 m
def zeP (f : Nat → Int) : Nat → Int
  | 0 => 1
  | m + 1 => zeP f m * f m
def zeQ (f : Nat → Int) : Nat → Nat → Int
  | _, 0 => 1
  | k, n + 1 => zeQ f (k + 1) n * f k
def zeW (ch : Nat → Int) (t : Nat) (go : Int) (p : Nat) : Int := if zand (zshr go p) 1 = 1 then (if zeF t p = 0 then ch p else 0) else (if zeF t p = 0 then 100 - ch p else 100)
def zeT (R : Nat → Int) (cha : Nat → Int → Int → Int) (m t : Nat) (go : Int) (u : Nat) : Int := if zeG m t go = u then R t * zeP (zeW (fun p => cha p (zeS 1 m t) (zeS 2 m t)) t go) m else 0
def zeE (R : Nat → Int) (cha : Nat → Int → Int → Int) (m t u : Nat) : Int := ztot (fun go => zeT R cha m t go u) (2 ^ m)
def zeR (cha : Nat → Nat → Int → Int → Int) (m : Nat) : Nat → Nat → Int
  | 0, t => if t = 0 then 1 else 0
  | g + 1, u => ztot (fun t => zeE (zeR cha m g) (cha g) m t u) (3 ^ m)
theorem zeD_lt {t p : Nat} {go : Int} : zeD t go p < 3 := by unfold zeD; split <;> (try split) <;> omega
theorem zeH_lt {f : Nat → Nat} (hf : ∀ p, f p < 3) : ∀ n k : Nat, zeH f k n < 3 ^ n
  | 0, k => by unfold zeH; decide
  | n + 1, k => by
    have := zeH_lt hf n (k + 1)
    have := hf k
    unfold zeH
    rw [Nat.pow_succ]
    omega
theorem zeH_fig {f : Nat → Nat} (hf : ∀ p, f p < 3) : ∀ n k p : Nat, p < n → zeF (zeH f k n) p = f (k + p)
  | 0, k, p, h => by omega
  | n + 1, k, 0, h => by
    have := hf k
    show (3 * zeH f (k + 1) n + f k) / 3 ^ 0 % 3 = f k
    rw [Nat.pow_zero, Nat.div_one]
    omega
  | n + 1, k, p + 1, h => by
    have ih := zeH_fig hf n (k + 1) p (by omega)
    have := hf k
    have e : zeH f k (n + 1) / 3 = zeH f (k + 1) n := by
      show (3 * zeH f (k + 1) n + f k) / 3 = _
      omega
    unfold zeF at ih ⊢
    rw [Nat.pow_succ, Nat.mul_comm (3 ^ p) 3, ← Nat.div_div_eq_div_mul, e, ih]
    congr 1
    omega
theorem zeG_lt {m t : Nat} {go : Int} : zeG m t go < 3 ^ m := zeH_lt (fun _ => zeD_lt) m 0
theorem zeG_fig {m t p : Nat} {go : Int} (hp : p < m) : zeF (zeG m t go) p = zeD t go p := by
  have := zeH_fig (f := zeD t go) (fun _ => zeD_lt) m 0 p hp
  rw [Nat.zero_add] at this
  exact this
theorem zeQ_s {f : Nat → Int} {k n : Nat} : zeQ f k (n + 1) = zeQ f (k + 1) n * f k := rfl
theorem zeP_split {f : Nat → Int} : ∀ n k : Nat, zeP f (k + n) = zeP f k * zeQ f k n
  | 0, k => by unfold zeQ; rw [Int.mul_one]; rfl
  | n + 1, k => by
    rw [show k + (n + 1) = k + 1 + n by omega, zeP_split n (k + 1), zeQ_s, show zeP f (k + 1) = zeP f k * f k from rfl, Int.mul_assoc, Int.mul_comm (f k)]
theorem zeP_zero {f : Nat → Int} {p : Nat} (hf : f p = 0) : ∀ m : Nat, p < m → zeP f m = 0
  | 0, h => by omega
  | m + 1, h => by
    unfold zeP
    by_cases e : p = m
    · rw [← e, hf, Int.mul_zero]
    · rw [zeP_zero hf m (by omega), Int.zero_mul]
theorem zeP_congr {f g : Nat → Int} : ∀ m : Nat, (∀ p, p < m → f p = g p) → zeP f m = zeP g m
  | 0, _ => rfl
  | m + 1, h => by unfold zeP; rw [zeP_congr m (fun p hp => h p (by omega)), h m (by omega)]
theorem zeP_bd {f : Nat → Int} : ∀ m : Nat, (∀ p, p < m → 0 ≤ f p ∧ f p ≤ 100) → 0 ≤ zeP f m ∧ zeP f m ≤ 100 ^ m
  | 0, _ => by unfold zeP; decide
  | m + 1, h => by
    have a := zeP_bd m (fun p hp => h p (by omega))
    have b := h m (by omega)
    have c := zmulb a.1 a.2 b.1 b.2
    rw [Int.pow_succ]
    exact c
theorem zeP_same {f g : Nat → Int} {w : Nat} : ∀ m : Nat, m ≤ w → (∀ p, p ≠ w → f p = g p) → zeP f m = zeP g m := fun m h h2 => zeP_congr m (fun p hp => h2 p (by omega))
theorem zeP_skip {f : Nat → Int} {w : Nat} : ∀ m : Nat, w < m → zeP f m = zeP (fun q => if q = w then 1 else f q) m * f w
  | 0, h => by omega
  | m + 1, h => by
    unfold zeP
    by_cases e : w = m
    · subst e
      rw [if_pos rfl, Int.mul_one, zeP_congr (g := fun q => if q = w then 1 else f q) w (fun p hp => (if_neg (by omega)).symm)]
    · rw [if_neg (show ¬ m = w by omega), zeP_skip m (show w < m by omega), Int.mul_assoc, Int.mul_assoc, Int.mul_comm (f w)]
/-! sums -/
theorem ztot_s {c : Nat → Int} {n : Nat} : ztot c (n + 1) = ztot c n + c n := rfl
theorem ztot_add {c : Nat → Int} {a : Nat} : ∀ b : Nat, ztot c (a + b) = ztot c a + ztot (fun i => c (a + i)) b
  | 0 => by show ztot c a = ztot c a + 0; omega
  | b + 1 => by rw [show a + (b + 1) = (a + b) + 1 by omega, ztot_s, ztot_s, ztot_add b]; omega
theorem ztot_plus {c e : Nat → Int} : ∀ n : Nat, ztot (fun i => c i + e i) n = ztot c n + ztot e n
  | 0 => rfl
  | n + 1 => by rw [ztot_s, ztot_s, ztot_s, ztot_plus n]; omega
theorem ztot_mul {c : Nat → Int} {x : Int} : ∀ n : Nat, ztot (fun i => x * c i) n = x * ztot c n
  | 0 => by show (0 : Int) = x * 0; rw [Int.mul_zero]
  | n + 1 => by rw [ztot_s, ztot_s, ztot_mul n, Int.mul_add]
theorem ztot_zero {c : Nat → Int} (n : Nat) (h : ∀ i, i < n → c i = 0) : ztot c n = 0 := by
  induction n with
  | zero => rfl
  | succ n ih => rw [ztot_s, ih (fun i hi => h i (by omega)), h n (by omega)]; omega
theorem ztot_swap {F : Nat → Nat → Int} {b : Nat} : ∀ a : Nat, ztot (fun u => ztot (fun t => F t u) a) b = ztot (fun t => ztot (fun u => F t u) b) a
  | 0 => by
    show _ = (0 : Int)
    exact ztot_zero b (fun i _ => rfl)
  | a + 1 => by
    rw [ztot_s, ← ztot_swap a, ← ztot_plus]
    rfl
theorem ztot_one {x : Int} {u : Nat} : ∀ n : Nat, u < n → ztot (fun i => if u = i then x else 0) n = x
  | 0, h => by omega
  | n + 1, h => by
    rw [ztot_s]
    by_cases e : u = n
    · rw [if_pos e, ztot_zero n (fun i hi => if_neg (by omega))]
      omega
    · rw [if_neg e, ztot_one n (by omega)]
      omega
theorem ztot_nn {c : Nat → Int} (n : Nat) (h : ∀ i, i < n → 0 ≤ c i) : 0 ≤ ztot c n := by
  induction n with
  | zero => exact Int.le_refl 0
  | succ n ih =>
    have := ih (fun i hi => h i (by omega))
    have := h n (by omega)
    rw [ztot_s]
    omega
theorem ztot_ge {c : Nat → Int} {k : Nat} (n : Nat) (h : ∀ i, i < n → 0 ≤ c i) (hk : k < n) : c k ≤ ztot c n := by
  induction n with
  | zero => omega
  | succ n ih =>
    rw [ztot_s]
    have := h n (by omega)
    by_cases e : k = n
    · have := ztot_nn n (fun i hi => h i (by omega))
      rw [e]; omega
    · have := ih (fun i hi => h i (by omega)) (by omega)
      omega
/-! bits -/
theorem zeb_lo0 : ∀ m, m < 5 → ∀ go, go < 2 ^ m → ¬ zand (zshr (go : Nat) (m : Nat)) 1 = 1 := by decide +kernel
theorem zeb_hi0 : ∀ m, m < 5 → ∀ go, go < 2 ^ m → zand (zshr ((2 ^ m + go : Nat) : Int) (m : Nat)) 1 = 1 ∧ ∀ p, p < m → (zand (zshr ((2 ^ m + go : Nat) : Int) (p : Nat)) 1 = 1 ↔ zand (zshr (go : Nat) (p : Nat)) 1 = 1) := by decide +kernel
theorem zeP_sum {a b : Nat → Int} : ∀ m : Nat, m ≤ 5 → ztot (fun go => zeP (fun p => if zand (zshr (go : Nat) (p : Nat)) 1 = 1 then b p else a p) m) (2 ^ m) = zeP (fun p => a p + b p) m
  | 0, _ => rfl
  | m + 1, h => by
    rw [Nat.pow_succ, Nat.mul_two, ztot_add]
    have e1 : ztot (fun go => zeP (fun p => if zand (zshr (go : Nat) (p : Nat)) 1 = 1 then b p else a p) (m + 1)) (2 ^ m) = a m * zeP (fun p => a p + b p) m := by
      rw [← zeP_sum m (by omega), ← ztot_mul]
      refine ztot_congr _ (fun go hgo => ?_)
      show zeP _ m * (if zand (zshr (go : Nat) (m : Nat)) 1 = 1 then b m else a m) = _
      rw [if_neg (zeb_lo0 m (by omega) go hgo), Int.mul_comm]
    have e2 : ztot (fun i => zeP (fun p => if zand (zshr ((2 ^ m + i : Nat) : Int) (p : Nat)) 1 = 1 then b p else a p) (m + 1)) (2 ^ m) = b m * zeP (fun p => a p + b p) m := by
      rw [← zeP_sum m (by omega), ← ztot_mul]
      refine ztot_congr _ (fun go hgo => ?_)
      have hb := zeb_hi0 m (by omega) go hgo
      show zeP _ m * (if zand (zshr ((2 ^ m + go : Nat) : Int) (m : Nat)) 1 = 1 then b m else a m) = _
      rw [if_pos hb.1, Int.mul_comm]
      congr 1
      refine zeP_congr m (fun p hp => ?_)
      have := hb.2 p hp
      by_cases q : zand (zshr (go : Nat) (p : Nat)) 1 = 1
      · rw [if_pos (this.mpr q), if_pos q]
      · rw [if_neg (fun z => q (this.mp z)), if_neg q]
    rw [e1, e2]
    show _ = zeP (fun p => a p + b p) m * (a m + b m)
    rw [Int.mul_add, Int.mul_comm (a m), Int.mul_comm (b m)]
theorem zeP_all : ∀ m : Nat, zeP (fun _ => 100) m = 100 ^ m
  | 0 => rfl
  | m + 1 => by show zeP _ m * 100 = _; rw [zeP_all m, Int.pow_succ]
/-- all that goes out of one state -/
theorem zeW_sum {ch : Nat → Int} {t m : Nat} (h : m ≤ 5) : ztot (fun go => zeP (zeW ch t go) m) (2 ^ m) = 100 ^ m := by
  have := zeP_sum (a := fun p => if zeF t p = 0 then 100 - ch p else 100) (b := fun p => if zeF t p = 0 then ch p else 0) m h
  have e : zeP (fun p => (if zeF t p = 0 then 100 - ch p else 100) + if zeF t p = 0 then ch p else 0) m = 100 ^ m := by
    rw [← zeP_all m]
    refine zeP_congr m (fun p _ => ?_)
    split <;> omega
  rw [e] at this
  exact this
theorem zeW_bd {ch : Nat → Int} {t p : Nat} {go : Int} (h : ∀ p, 0 ≤ ch p ∧ ch p ≤ 100) : 0 ≤ zeW ch t go p ∧ zeW ch t go p ≤ 100 := by
  have := h p
  unfold zeW
  split <;> split <;> omega
section
variable {cha : Nat → Nat → Int → Int → Int} {m : Nat}
theorem zeR_nn (hc : ∀ g p s go, 0 ≤ cha g p s go ∧ cha g p s go ≤ 100) : ∀ g t : Nat, 0 ≤ zeR cha m g t
  | 0, t => by unfold zeR; split <;> omega
  | g + 1, u => by
    unfold zeR
    refine ztot_nn _ (fun t _ => ztot_nn _ (fun go _ => ?_))
    unfold zeT
    split
    · exact Int.mul_nonneg (zeR_nn hc g t) (zeP_bd m (fun p _ => zeW_bd (fun p => hc g p _ _))).1
    · omega
theorem zeR_sum (hm : m ≤ 5) : ∀ g : Nat, ztot (zeR cha m g) (3 ^ m) = 100 ^ (m * g)
  | 0 => by
    have e : ztot (zeR cha m 0) (3 ^ m) = ztot (fun i => if 0 = i then (1 : Int) else 0) (3 ^ m) := ztot_congr _ (fun i _ => by
      unfold zeR
      by_cases q : i = 0
      · rw [if_pos q, if_pos q.symm]
      · rw [if_neg q, if_neg (fun z => q z.symm)])
    rw [e, ztot_one _ (Nat.pow_pos (by decide)), Nat.mul_zero]
    rfl
  | g + 1 => by
    have e : ztot (zeR cha m (g + 1)) (3 ^ m) = ztot (fun u => ztot (fun t => zeE (zeR cha m g) (cha g) m t u) (3 ^ m)) (3 ^ m) := rfl
    rw [e, ztot_swap]
    have e2 : ∀ t : Nat, ztot (fun u => zeE (zeR cha m g) (cha g) m t u) (3 ^ m) = 100 ^ m * zeR cha m g t := fun t => by
      unfold zeE
      rw [ztot_swap, ← zeW_sum (ch := fun p => cha g p (zeS 1 m t) (zeS 2 m t)) (t := t) hm, Int.mul_comm, ← ztot_mul]
      refine ztot_congr _ (fun go _ => ?_)
      unfold zeT
      exact ztot_one _ zeG_lt
    rw [ztot_congr _ (fun t _ => e2 t), ztot_mul, zeR_sum hm g, ← Int.pow_add, show m + m * g = m * (g + 1) by rw [Nat.mul_add]; omega]
theorem zeR_bd (hm : m ≤ 5) (hc : ∀ g p s go, 0 ≤ cha g p s go ∧ cha g p s go ≤ 100) {g t : Nat} (ht : t < 3 ^ m) : zeR cha m g t ≤ 100 ^ (m * g) := by
  rw [← zeR_sum hm g]
  exact ztot_ge _ (fun i _ => zeR_nn hc g i) ht
end

/-! EACH: the class's order, and what it counts -/
def zeIok (m a b : Nat) : Bool := decide (zand (a : Nat) (b : Nat) = 0 → (0 ≤ zthrees a ∧ 0 ≤ zthrees b) ∧ (zthrees a + 2 * zthrees b).toNat < 3 ^ m ∧ zeS 1 m (zthrees a + 2 * zthrees b).toNat = a ∧ zeS 2 m (zthrees a + 2 * zthrees b).toNat = b)
theorem zeIdxB : ∀ m, m < 6 → ∀ a, a < 2 ^ m → ∀ b, b < 2 ^ m → zeIok m a b = true := by decide +kernel
theorem zeIdx0 {m a b : Nat} (hm : m ≤ 5) (ha : a < 2 ^ m) (hb : b < 2 ^ m) (h : zand (a : Nat) (b : Nat) = 0) : (0 ≤ zthrees a ∧ 0 ≤ zthrees b) ∧ (zthrees a + 2 * zthrees b).toNat < 3 ^ m ∧ zeS 1 m (zthrees a + 2 * zthrees b).toNat = a ∧ zeS 2 m (zthrees a + 2 * zthrees b).toNat = b := of_decide_eq_true (zeIdxB m (by omega) a ha b hb) h
def zeL (m n : Nat) : List Nat := (List.range n).filterMap (fun j => if zand ((j / 2 ^ m : Nat) : Int) ((j % 2 ^ m : Nat) : Int) = 0 then some (zthrees (j / 2 ^ m) + 2 * zthrees (j % 2 ^ m)).toNat else none)
theorem zeL_perm : ∀ m, m ≤ 5 → (zeL m (4 ^ m)).isPerm (List.range (3 ^ m)) = true := by decide +kernel
def zls (F : Nat → Int) : List Nat → Int
  | [] => 0
  | x :: xs => F x + zls F xs
theorem zls_app {F : Nat → Int} : ∀ a b : List Nat, zls F (a ++ b) = zls F a + zls F b
  | [], b => by show zls F b = 0 + zls F b; omega
  | x :: a, b => by show F x + zls F (a ++ b) = F x + zls F a + zls F b; rw [zls_app a b]; omega
theorem zls_perm {F : Nat → Int} {a b : List Nat} (h : a.Perm b) : zls F a = zls F b := by
  induction h with
  | nil => rfl
  | cons x _ ih => show F x + _ = F x + _; rw [ih]
  | swap x y l => show F y + (F x + _) = F x + (F y + _); omega
  | trans _ _ i1 i2 => rw [i1, i2]
theorem zls_range {F : Nat → Int} : ∀ n : Nat, zls F (List.range n) = ztot F n
  | 0 => rfl
  | n + 1 => by
    rw [List.range_succ, zls_app, zls_range n, ztot_s]
    show _ + (F n + 0) = _
    omega
theorem zls_L {F : Nat → Int} {m : Nat} : ∀ n : Nat, zls F (zeL m n) = ztot (fun j => if zand ((j / 2 ^ m : Nat) : Int) ((j % 2 ^ m : Nat) : Int) = 0 then F (zthrees (j / 2 ^ m) + 2 * zthrees (j % 2 ^ m)).toNat else 0) n
  | 0 => rfl
  | n + 1 => by
    have ih := zls_L (F := F) (m := m) n
    unfold zeL at ih ⊢
    rw [List.range_succ, List.filterMap_append, zls_app, ih, ztot_s]
    congr 1
    by_cases c : zand ((n / 2 ^ m : Nat) : Int) ((n % 2 ^ m : Nat) : Int) = 0
    · rw [if_pos c]
      simp only [List.filterMap_cons, List.filterMap_nil, if_pos c]
      show F _ + 0 = _
      omega
    · rw [if_neg c]
      simp only [List.filterMap_cons, List.filterMap_nil, if_neg c]
      rfl
theorem ztot_perm {F : Nat → Int} {m : Nat} (hm : m ≤ 5) : ztot (fun j => if zand ((j / 2 ^ m : Nat) : Int) ((j % 2 ^ m : Nat) : Int) = 0 then F (zthrees (j / 2 ^ m) + 2 * zthrees (j % 2 ^ m)).toNat else 0) (4 ^ m) = ztot F (3 ^ m) := by
  rw [← zls_L, zls_perm (List.isPerm_iff.mp (zeL_perm m hm)), zls_range]
def zeK (R : Nat → Int) (cha : Nat → Int → Int → Int) (m who t : Nat) (go : Int) (u : Nat) : Int := if zand (zshr go who) 1 = 1 then 0 else zeT R cha m t go u
def zeKE (R : Nat → Int) (cha : Nat → Int → Int → Int) (m who t u : Nat) : Int := if zeF t who = 0 then ztot (fun go => zeK R cha m who t go u) (2 ^ m) else 0
theorem zeT_ne {R : Nat → Int} {cha : Nat → Int → Int → Int} {m who t u : Nat} {go : Int} (hw : who < m) (h : zeD t go who ≠ zeF u who) : zeT R cha m t go u = 0 := by
  unfold zeT
  rw [if_neg]
  intro e
  rw [← e, zeG_fig hw] at h
  exact h rfl
theorem zeK_all {R : Nat → Int} {cha : Nat → Int → Int → Int} {m who u : Nat} (hw : who < m) : ztot (fun t => zeKE R cha m who t u) (3 ^ m) = if zeF u who = 0 then ztot (fun t => zeE R cha m t u) (3 ^ m) else 0 := by
  by_cases c : zeF u who = 0
  · rw [if_pos c]
    refine ztot_congr _ (fun t _ => ?_)
    unfold zeKE zeE
    by_cases c2 : zeF t who = 0
    · rw [if_pos c2]
      refine ztot_congr _ (fun go _ => ?_)
      unfold zeK
      split
      · rename_i c3
        refine (zeT_ne hw ?_).symm
        unfold zeD
        rw [if_pos c2, if_pos c3, c]
        decide
      · rfl
    · rw [if_neg c2]
      refine (ztot_zero _ (fun go _ => zeT_ne hw ?_)).symm
      unfold zeD
      rw [if_neg c2, c]
      decide
  · rw [if_neg c]
    refine ztot_zero _ (fun t _ => ?_)
    unfold zeKE
    split
    · rename_i c2
      refine ztot_zero _ (fun go _ => ?_)
      unfold zeK
      split
      · rfl
      · rename_i c3
        refine zeT_ne hw ?_
        unfold zeD
        rw [if_pos c2, if_neg c3]
        exact fun e => c e.symm
    · rfl
section
variable {cha : Nat → Nat → Int → Int → Int} {m : Nat}
theorem zeR_out : ∀ g s : Nat, 3 ^ m ≤ s → zeR cha m g s = 0
  | 0, s, h => by
    have : 0 < 3 ^ m := Nat.pow_pos (by decide)
    unfold zeR
    rw [if_neg (by omega)]
  | g + 1, s, h => by
    unfold zeR
    refine ztot_zero _ (fun t _ => ztot_zero _ (fun go _ => ?_))
    unfold zeT
    rw [if_neg]
    intro e
    have := zeG_lt (m := m) (t := t) (go := go)
    omega
/-- the class's number at a state -/
def zeV (cha : Nat → Nat → Int → Int → Int) (m who g s : Nat) : Int := if zeF s who = 0 then zeR cha m g s else 0
theorem zeV_step {who g u : Nat} (hm : m ≤ 5) (hw : who < m) : zeV cha m who (g + 1) u = ztot (fun j => if zand ((j / 2 ^ m : Nat) : Int) ((j % 2 ^ m : Nat) : Int) = 0 then zeKE (zeR cha m g) (cha g) m who (zthrees (j / 2 ^ m) + 2 * zthrees (j % 2 ^ m)).toNat u else 0) (4 ^ m) := by
  rw [ztot_perm (F := fun t => zeKE (zeR cha m g) (cha g) m who t u) hm, zeK_all hw]
  rfl
theorem zeV_bd {who g s : Nat} (hm : m ≤ 5) (hc : ∀ g p s go, 0 ≤ cha g p s go ∧ cha g p s go ≤ 100) : 0 ≤ zeV cha m who g s ∧ zeV cha m who g s ≤ 100 ^ (m * g) := by
  have p : (0 : Int) < 100 ^ (m * g) := Int.pow_pos (by decide)
  unfold zeV
  split
  · refine ⟨zeR_nn hc g s, ?_⟩
    by_cases h : s < 3 ^ m
    · exact zeR_bd hm hc h
    · rw [zeR_out g s (by omega)]
      omega
  · omega
/-- what is told of EACH -/
def zeU (cha : Nat → Nat → Int → Int → Int) (m who g : Nat) : Int := ztot (fun s => if zeF s who = 0 then 0 else zeR cha m g s) (3 ^ m)
theorem zeV_sum {who g : Nat} (hm : m ≤ 5) : ztot (zeV cha m who g) 243 = 100 ^ (m * g) - zeU cha m who g := by
  have h3 : 3 ^ m ≤ 243 := by
    have := Nat.pow_le_pow_right (n := 3) (by decide) hm
    exact this
  have e : ztot (zeV cha m who g) 243 = ztot (zeV cha m who g) (3 ^ m) := by
    rw [show 243 = 3 ^ m + (243 - 3 ^ m) by omega, ztot_add, ztot_zero (243 - 3 ^ m)]
    · omega
    · intro i _
      unfold zeV
      split
      · exact zeR_out _ _ (by omega)
      · rfl
  rw [e, ← zeR_sum (cha := cha) hm g]
  unfold zeU
  have : ztot (zeR cha m g) (3 ^ m) = ztot (fun s => zeV cha m who g s + if zeF s who = 0 then 0 else zeR cha m g s) (3 ^ m) := ztot_congr _ (fun s _ => by
    unfold zeV
    split <;> omega)
  rw [this, ztot_plus]
  omega
theorem zeU_bd {who g : Nat} (hm : m ≤ 5) (hc : ∀ g p s go, 0 ≤ cha g p s go ∧ cha g p s go ≤ 100) : 0 ≤ zeU cha m who g ∧ zeU cha m who g ≤ 100 ^ (m * g) := by
  have a := zeV_sum (cha := cha) (who := who) (g := g) hm
  have b := ztot_nn (c := zeV cha m who g) 243 (fun i _ => (zeV_bd hm hc).1)
  have c : 0 ≤ zeU cha m who g := by
    unfold zeU
    refine ztot_nn _ (fun i _ => ?_)
    split
    · omega
    · exact zeR_nn hc g i
  omega
/-- the sizes -/
theorem zeT_bd {g t u : Nat} {go : Int} (hm : m ≤ 5) (hg : g < 12) (ht : t < 3 ^ m) (hc : ∀ g p s go, 0 ≤ cha g p s go ∧ cha g p s go ≤ 100) : 0 ≤ zeT (zeR cha m g) (cha g) m t go u ∧ zeT (zeR cha m g) (cha g) m t go u ≤ 100 ^ 60 := by
  have p : (0 : Int) < 100 ^ 60 := Int.pow_pos (by decide)
  unfold zeT
  split
  · have a := zeP_bd (f := zeW (fun p => cha g p (zeS 1 m t) (zeS 2 m t)) t go) m (fun p _ => zeW_bd (fun p => hc g p _ _))
    have b := zmulb (zeR_nn hc g t) (zeR_bd hm hc (g := g) ht) a.1 a.2
    rw [← Int.pow_add] at b
    have hle : m * g + m ≤ 60 := by
      have := Nat.mul_le_mul hm (show g + 1 ≤ 12 by omega)
      rw [Nat.mul_add] at this
      omega
    have := zhm_mono hle
    omega
  · omega
end

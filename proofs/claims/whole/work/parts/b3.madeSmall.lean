/-! the constructors: small ones -/
section
variable {X : zX} {l : Launch} {d : Nat}
def zc_Big (n a : Nat) : zCs := [(0, n, zsu (zsu (zsu (zdf 0 n) 2 0) 0 (n : Int)) 1 ((a + 1 : Nat) : Int)), (12, n, zdf 12 n)]
theorem k_Big_init {n : Nat} {μ0 μ : zM} {a : Nat} {Q : zM → Prop} (D0 : zDe μ0 μ a 1 [(0, n, zdf 0 n)]) (hd : 2 ≤ d) (hn : 1 ≤ n) (hn2 : n < 60000000) (hQ : ∀ ν, zDe μ0 ν a 2 (zc_Big n a) → Q ν) : zCv X false l d 1 n y_Big_init [(2, n, (a : Int)), (0, 0, (n : Int))] μ Q := by
  refine zC'_of (by decide +kernel) (Nat.le_of_ble_eq_true rfl) rfl ?_
  refine s_Big_init_0 (by omega) (s_Big_init_4 ?_)
  have D1 := D0.pu (r := 0) (a : Int) 2 0 rfl rfl
  generalize zup μ (a : Int) 2 0 = μ1 at D1 ⊢
  have en : (if (1 : Int) < (n : Int) then (n : Int) else 1) = n := by split <;> omega
  refine s_Big_init_9 (by omega) ?_
  rw [en]
  have D2 := D1.pu (r := 0) (a : Int) 0 (n : Int) rfl rfl
  generalize zup μ1 (a : Int) 0 (n : Int) = μ2 at D2 ⊢
  refine s_Big_init_18 ⟨by omega, ⟨(D2.ge (r := 0) (a : Int) _ rfl rfl).trans rfl, hn2⟩, ?_⟩
  rw [D2.1]
  exact hQ _ (((D2.new (t := 12) (L := n)).pu (r := 0) (a : Int) 1 ((a + 1 : Nat) : Int) rfl rfl).to rfl rfl)
def zc_Rows (n a : Nat) : zCs := [(6, n, zsu (zsu (zsu (zsu (zsu (zdf 6 n) 0 0) 1 (n : Int)) 2 ((a + 1 : Nat) : Int)) 3 ((a + 2 : Nat) : Int)) 4 ((a + 3 : Nat) : Int)), (12, n, zdf 12 n), (12, n, zdf 12 n), (12, n, zdf 12 n)]
theorem k_Rows_init {n : Nat} {μ0 μ : zM} {a : Nat} {Q : zM → Prop} (D0 : zDe μ0 μ a 1 [(6, n, zdf 6 n)]) (hd : 2 ≤ d) (hn : 1 ≤ n) (hn2 : n < 60000000) (hQ : ∀ ν, zDe μ0 ν a 4 (zc_Rows n a) → Q ν) : zCv X false l d 3 (3 * n) y_Rows_init [(8, n, (a : Int)), (0, 0, (n : Int))] μ Q := by
  refine zC'_of (by decide +kernel) (Nat.le_of_ble_eq_true rfl) rfl ?_
  refine s_Rows_init_0 (by omega) (s_Rows_init_4 ?_)
  have D1 := D0.pu (r := 0) (a : Int) 0 0 rfl rfl
  generalize zup μ (a : Int) 0 0 = μ1 at D1 ⊢
  have en : (if (0 : Int) < (n : Int) then (n : Int) else 0) = n := by split <;> omega
  refine s_Rows_init_9 (by omega) ?_
  rw [en]
  have D2 := D1.pu (r := 0) (a : Int) 1 (n : Int) rfl rfl
  generalize zup μ1 (a : Int) 1 (n : Int) = μ2 at D2 ⊢
  refine s_Rows_init_18 ⟨by omega, ⟨(D2.ge (r := 0) (a : Int) _ rfl rfl).trans rfl, hn2⟩, ?_⟩
  rw [D2.1]
  have D3 := ((D2.new (t := 12) (L := n)).pu (r := 0) (a : Int) 2 ((a + 1 : Nat) : Int) rfl rfl).to (n' := 2) rfl rfl
  generalize zup (zal μ2 12 n) (a : Int) 2 ((a + 1 : Nat) : Int) = μ3 at D3 ⊢
  refine s_Rows_init_28 ⟨by omega, ⟨(D3.ge (r := 0) (a : Int) _ rfl rfl).trans rfl, hn2⟩, ?_⟩
  rw [D3.1]
  have D4 := ((D3.new (t := 12) (L := n)).pu (r := 0) (a : Int) 3 ((a + 2 : Nat) : Int) rfl rfl).to (n' := 3) rfl rfl
  generalize zup (zal μ3 12 n) (a : Int) 3 ((a + 2 : Nat) : Int) = μ4 at D4 ⊢
  refine s_Rows_init_38 ⟨by omega, ⟨(D4.ge (r := 0) (a : Int) _ rfl rfl).trans rfl, hn2⟩, ?_⟩
  rw [D4.1]
  exact hQ _ (((D4.new (t := 12) (L := n)).pu (r := 0) (a : Int) 4 ((a + 3 : Nat) : Int) rfl rfl).to rfl rfl)
def zc_Plan (a : Nat) : zCs := [(2, 0, zsu (zsu (zsu (zsu (zsu (zsu (zdf 2 0) 0 0) 1 ((a + 1 : Nat) : Int)) 2 ((a + 2 : Nat) : Int)) 3 ((a + 3 : Nat) : Int)) 4 ((a + 4 : Nat) : Int)) 5 ((a + 5 : Nat) : Int)), (12, 5, zdf 12 5), (12, 5, zdf 12 5), (12, 5, zfs9 (zdf 12 5) ((5 : Nat) : Int) 31), (12, 5, zfs9 (zdf 12 5) ((5 : Nat) : Int) 31), (12, 5, zfs9 (zdf 12 5) ((5 : Nat) : Int) (-1))]
theorem k_Plan_init {μ0 μ : zM} {a : Nat} {Q : zM → Prop} (D0 : zDe μ0 μ a 1 [(2, 0, zdf 2 0)]) (hd : 2 ≤ d) (hQ : ∀ ν, zDe μ0 ν a 6 (zc_Plan a) → Q ν) : zCv X false l d 5 25 y_Plan_init [(4, 0, (a : Int))] μ Q := by
  refine zC'_of (by decide +kernel) (Nat.le_of_ble_eq_true rfl) rfl ?_
  refine s_Plan_init_0 (by omega) ?_
  refine s_Plan_init_4 ?_
  have D1 := (D0.pu (r := 0) (a : Int) 0 0 rfl rfl).to (n' := 1) (ds := [(2, 0, zsu (zdf 2 0) 0 0)]) rfl rfl
  generalize zup (μ) (a : Int) 0 0 = μ1 at D1 ⊢
  refine s_Plan_init_9 ⟨by omega, ?_⟩
  rw [D1.1]
  have D2 := ((D1.new (t := 12) (L := 5)).pu (r := 0) (a : Int) 1 ((a + 1 : Nat) : Int) rfl rfl).to (n' := 2) (ds := [(2, 0, zsu (zsu (zdf 2 0) 0 0) 1 ((a + 1 : Nat) : Int)), (12, 5, zdf 12 5)]) rfl rfl
  generalize zup (zal μ1 12 5) (a : Int) 1 ((a + 1 : Nat) : Int) = μ2 at D2 ⊢
  refine s_Plan_init_16 ⟨by omega, ?_⟩
  rw [D2.1]
  have D3 := ((D2.new (t := 12) (L := 5)).pu (r := 0) (a : Int) 2 ((a + 2 : Nat) : Int) rfl rfl).to (n' := 3) (ds := [(2, 0, zsu (zsu (zsu (zdf 2 0) 0 0) 1 ((a + 1 : Nat) : Int)) 2 ((a + 2 : Nat) : Int)), (12, 5, zdf 12 5), (12, 5, zdf 12 5)]) rfl rfl
  generalize zup (zal μ2 12 5) (a : Int) 2 ((a + 2 : Nat) : Int) = μ3 at D3 ⊢
  refine s_Plan_init_23 ⟨by omega, ?_⟩
  rw [D3.1]
  have D4 := ((D3.new (t := 12) (L := 5)).pu (r := 0) (a : Int) 3 ((a + 3 : Nat) : Int) rfl rfl).to (n' := 4) (ds := [(2, 0, zsu (zsu (zsu (zsu (zdf 2 0) 0 0) 1 ((a + 1 : Nat) : Int)) 2 ((a + 2 : Nat) : Int)) 3 ((a + 3 : Nat) : Int)), (12, 5, zdf 12 5), (12, 5, zdf 12 5), (12, 5, zdf 12 5)]) rfl rfl
  generalize zup (zal μ3 12 5) (a : Int) 3 ((a + 3 : Nat) : Int) = μ4 at D4 ⊢
  refine s_Plan_init_30 ⟨by omega, ?_⟩
  rw [D4.1]
  have D5 := ((D4.new (t := 12) (L := 5)).pu (r := 0) (a : Int) 4 ((a + 4 : Nat) : Int) rfl rfl).to (n' := 5) (ds := [(2, 0, zsu (zsu (zsu (zsu (zsu (zdf 2 0) 0 0) 1 ((a + 1 : Nat) : Int)) 2 ((a + 2 : Nat) : Int)) 3 ((a + 3 : Nat) : Int)) 4 ((a + 4 : Nat) : Int)), (12, 5, zdf 12 5), (12, 5, zdf 12 5), (12, 5, zdf 12 5), (12, 5, zdf 12 5)]) rfl rfl
  generalize zup (zal μ4 12 5) (a : Int) 4 ((a + 4 : Nat) : Int) = μ5 at D5 ⊢
  refine s_Plan_init_37 ⟨by omega, ?_⟩
  rw [D5.1]
  have D6 := ((D5.new (t := 12) (L := 5)).pu (r := 0) (a : Int) 5 ((a + 5 : Nat) : Int) rfl rfl).to (n' := 6) (ds := [(2, 0, zsu (zsu (zsu (zsu (zsu (zsu (zdf 2 0) 0 0) 1 ((a + 1 : Nat) : Int)) 2 ((a + 2 : Nat) : Int)) 3 ((a + 3 : Nat) : Int)) 4 ((a + 4 : Nat) : Int)) 5 ((a + 5 : Nat) : Int)), (12, 5, zdf 12 5), (12, 5, zdf 12 5), (12, 5, zdf 12 5), (12, 5, zdf 12 5), (12, 5, zdf 12 5)]) rfl rfl
  generalize zup (zal μ5 12 5) (a : Int) 5 ((a + 5 : Nat) : Int) = μ6 at D6 ⊢
  have e6 : μ6 (a : Int) 3 = ((a + 3 : Nat) : Int) := (D6.ge (r := 0) (a : Int) 3 rfl rfl).trans rfl
  refine s_Plan_init_44 (d1 := d - 1) (by omega) ?_
  rw [e6]
  refine ⟨by omega, k_fill (by decide) ?_⟩
  have D7 := (D6.fi (r := 3) ((a + 3 : Nat) : Int) ((5 : Nat) : Int) 31 rfl rfl).to (n' := 6) (ds := [(2, 0, zsu (zsu (zsu (zsu (zsu (zsu (zdf 2 0) 0 0) 1 ((a + 1 : Nat) : Int)) 2 ((a + 2 : Nat) : Int)) 3 ((a + 3 : Nat) : Int)) 4 ((a + 4 : Nat) : Int)) 5 ((a + 5 : Nat) : Int)), (12, 5, zdf 12 5), (12, 5, zdf 12 5), (12, 5, zfs9 (zdf 12 5) ((5 : Nat) : Int) 31), (12, 5, zdf 12 5), (12, 5, zdf 12 5)]) rfl rfl
  generalize zfl μ6 ((a + 3 : Nat) : Int) 0 ((5 : Nat) : Int) 31 = μ7 at D7 ⊢
  have e7 : μ7 (a : Int) 4 = ((a + 4 : Nat) : Int) := (D7.ge (r := 0) (a : Int) 4 rfl rfl).trans rfl
  refine s_Plan_init_53 (d1 := d - 1) (by omega) ?_
  rw [e7]
  refine ⟨by omega, k_fill (by decide) ?_⟩
  have D8 := (D7.fi (r := 4) ((a + 4 : Nat) : Int) ((5 : Nat) : Int) 31 rfl rfl).to (n' := 6) (ds := [(2, 0, zsu (zsu (zsu (zsu (zsu (zsu (zdf 2 0) 0 0) 1 ((a + 1 : Nat) : Int)) 2 ((a + 2 : Nat) : Int)) 3 ((a + 3 : Nat) : Int)) 4 ((a + 4 : Nat) : Int)) 5 ((a + 5 : Nat) : Int)), (12, 5, zdf 12 5), (12, 5, zdf 12 5), (12, 5, zfs9 (zdf 12 5) ((5 : Nat) : Int) 31), (12, 5, zfs9 (zdf 12 5) ((5 : Nat) : Int) 31), (12, 5, zdf 12 5)]) rfl rfl
  generalize zfl μ7 ((a + 4 : Nat) : Int) 0 ((5 : Nat) : Int) 31 = μ8 at D8 ⊢
  have e8 : μ8 (a : Int) 5 = ((a + 5 : Nat) : Int) := (D8.ge (r := 0) (a : Int) 5 rfl rfl).trans rfl
  refine s_Plan_init_62 (d1 := d - 1) (by omega) ?_
  rw [e8]
  refine ⟨by omega, k_fill (by decide) ?_⟩
  have D9 := (D8.fi (r := 5) ((a + 5 : Nat) : Int) ((5 : Nat) : Int) (-1) rfl rfl).to (n' := 6) (ds := [(2, 0, zsu (zsu (zsu (zsu (zsu (zsu (zdf 2 0) 0 0) 1 ((a + 1 : Nat) : Int)) 2 ((a + 2 : Nat) : Int)) 3 ((a + 3 : Nat) : Int)) 4 ((a + 4 : Nat) : Int)) 5 ((a + 5 : Nat) : Int)), (12, 5, zdf 12 5), (12, 5, zdf 12 5), (12, 5, zfs9 (zdf 12 5) ((5 : Nat) : Int) 31), (12, 5, zfs9 (zdf 12 5) ((5 : Nat) : Int) 31), (12, 5, zfs9 (zdf 12 5) ((5 : Nat) : Int) (-1))]) rfl rfl
  generalize zfl μ8 ((a + 5 : Nat) : Int) 0 ((5 : Nat) : Int) (-1) = μ9 at D9 ⊢
  exact hQ _ (D9.to rfl rfl)
def zc_Law (a : Nat) : zCs := [(1, 0, zsu (zsu (zsu (zsu (zsu (zsu (zsu (zsu (zdf 1 0) 0 0) 1 ((a + 1 : Nat) : Int)) 2 ((a + 2 : Nat) : Int)) 3 ((a + 3 : Nat) : Int)) 4 ((a + 4 : Nat) : Int)) 5 0) 6 ((a + 5 : Nat) : Int)) 7 ((a + 6 : Nat) : Int)), (14, 12, zdf 14 12), (12, 12, zdf 12 12), (12, 12, zdf 12 12), (12, 12, zdf 12 12), (12, 400, zdf 12 400), (12, 400, zdf 12 400)]
theorem k_Law_init {μ0 μ : zM} {a : Nat} {Q : zM → Prop} (D0 : zDe μ0 μ a 1 [(1, 0, zdf 1 0)]) (hd : 2 ≤ d) (hQ : ∀ ν, zDe μ0 ν a 7 (zc_Law a) → Q ν) : zCv X false l d 6 848 y_Law_init [(3, 0, (a : Int))] μ Q := by
  refine zC'_of (by decide +kernel) (Nat.le_of_ble_eq_true rfl) rfl ?_
  refine s_Law_init_0 (by omega) ?_
  refine s_Law_init_4 ?_
  have D1 := (D0.pu (r := 0) (a : Int) 0 0 rfl rfl).to (n' := 1) (ds := [(1, 0, zsu (zdf 1 0) 0 0)]) rfl rfl
  generalize zup (μ) (a : Int) 0 0 = μ1 at D1 ⊢
  refine s_Law_init_9 ⟨by omega, ?_⟩
  rw [D1.1]
  have D2 := ((D1.new (t := 14) (L := 12)).pu (r := 0) (a : Int) 1 ((a + 1 : Nat) : Int) rfl rfl).to (n' := 2) (ds := [(1, 0, zsu (zsu (zdf 1 0) 0 0) 1 ((a + 1 : Nat) : Int)), (14, 12, zdf 14 12)]) rfl rfl
  generalize zup (zal μ1 14 12) (a : Int) 1 ((a + 1 : Nat) : Int) = μ2 at D2 ⊢
  refine s_Law_init_17 ⟨by omega, ?_⟩
  rw [D2.1]
  have D3 := ((D2.new (t := 12) (L := 12)).pu (r := 0) (a : Int) 2 ((a + 2 : Nat) : Int) rfl rfl).to (n' := 3) (ds := [(1, 0, zsu (zsu (zsu (zdf 1 0) 0 0) 1 ((a + 1 : Nat) : Int)) 2 ((a + 2 : Nat) : Int)), (14, 12, zdf 14 12), (12, 12, zdf 12 12)]) rfl rfl
  generalize zup (zal μ2 12 12) (a : Int) 2 ((a + 2 : Nat) : Int) = μ3 at D3 ⊢
  refine s_Law_init_25 ⟨by omega, ?_⟩
  rw [D3.1]
  have D4 := ((D3.new (t := 12) (L := 12)).pu (r := 0) (a : Int) 3 ((a + 3 : Nat) : Int) rfl rfl).to (n' := 4) (ds := [(1, 0, zsu (zsu (zsu (zsu (zdf 1 0) 0 0) 1 ((a + 1 : Nat) : Int)) 2 ((a + 2 : Nat) : Int)) 3 ((a + 3 : Nat) : Int)), (14, 12, zdf 14 12), (12, 12, zdf 12 12), (12, 12, zdf 12 12)]) rfl rfl
  generalize zup (zal μ3 12 12) (a : Int) 3 ((a + 3 : Nat) : Int) = μ4 at D4 ⊢
  refine s_Law_init_33 ⟨by omega, ?_⟩
  rw [D4.1]
  have D5 := ((D4.new (t := 12) (L := 12)).pu (r := 0) (a : Int) 4 ((a + 4 : Nat) : Int) rfl rfl).to (n' := 5) (ds := [(1, 0, zsu (zsu (zsu (zsu (zsu (zdf 1 0) 0 0) 1 ((a + 1 : Nat) : Int)) 2 ((a + 2 : Nat) : Int)) 3 ((a + 3 : Nat) : Int)) 4 ((a + 4 : Nat) : Int)), (14, 12, zdf 14 12), (12, 12, zdf 12 12), (12, 12, zdf 12 12), (12, 12, zdf 12 12)]) rfl rfl
  generalize zup (zal μ4 12 12) (a : Int) 4 ((a + 4 : Nat) : Int) = μ5 at D5 ⊢
  refine s_Law_init_41 ?_
  have D6 := (D5.pu (r := 0) (a : Int) 5 0 rfl rfl).to (n' := 5) (ds := [(1, 0, zsu (zsu (zsu (zsu (zsu (zsu (zdf 1 0) 0 0) 1 ((a + 1 : Nat) : Int)) 2 ((a + 2 : Nat) : Int)) 3 ((a + 3 : Nat) : Int)) 4 ((a + 4 : Nat) : Int)) 5 0), (14, 12, zdf 14 12), (12, 12, zdf 12 12), (12, 12, zdf 12 12), (12, 12, zdf 12 12)]) rfl rfl
  generalize zup (μ5) (a : Int) 5 0 = μ6 at D6 ⊢
  refine s_Law_init_46 ⟨by omega, ?_⟩
  rw [D6.1]
  have D7 := ((D6.new (t := 12) (L := 400)).pu (r := 0) (a : Int) 6 ((a + 5 : Nat) : Int) rfl rfl).to (n' := 6) (ds := [(1, 0, zsu (zsu (zsu (zsu (zsu (zsu (zsu (zdf 1 0) 0 0) 1 ((a + 1 : Nat) : Int)) 2 ((a + 2 : Nat) : Int)) 3 ((a + 3 : Nat) : Int)) 4 ((a + 4 : Nat) : Int)) 5 0) 6 ((a + 5 : Nat) : Int)), (14, 12, zdf 14 12), (12, 12, zdf 12 12), (12, 12, zdf 12 12), (12, 12, zdf 12 12), (12, 400, zdf 12 400)]) rfl rfl
  generalize zup (zal μ6 12 400) (a : Int) 6 ((a + 5 : Nat) : Int) = μ7 at D7 ⊢
  refine s_Law_init_55 ⟨by omega, ?_⟩
  rw [D7.1]
  have D8 := ((D7.new (t := 12) (L := 400)).pu (r := 0) (a : Int) 7 ((a + 6 : Nat) : Int) rfl rfl).to (n' := 7) (ds := [(1, 0, zsu (zsu (zsu (zsu (zsu (zsu (zsu (zsu (zdf 1 0) 0 0) 1 ((a + 1 : Nat) : Int)) 2 ((a + 2 : Nat) : Int)) 3 ((a + 3 : Nat) : Int)) 4 ((a + 4 : Nat) : Int)) 5 0) 6 ((a + 5 : Nat) : Int)) 7 ((a + 6 : Nat) : Int)), (14, 12, zdf 14 12), (12, 12, zdf 12 12), (12, 12, zdf 12 12), (12, 12, zdf 12 12), (12, 400, zdf 12 400), (12, 400, zdf 12 400)]) rfl rfl
  generalize zup (zal μ7 12 400) (a : Int) 7 ((a + 6 : Nat) : Int) = μ8 at D8 ⊢
  exact hQ _ (D8.to rfl rfl)
def zc_World (a : Nat) : zCs := [(9, 0, zsu (zsu (zdf 9 0) 0 0) 1 ((a + 1 : Nat) : Int)), (12, 5, zdf 12 5)]
theorem k_World_init {μ0 μ : zM} {a : Nat} {Q : zM → Prop} (D0 : zDe μ0 μ a 1 [(9, 0, zdf 9 0)]) (hd : 2 ≤ d) (hQ : ∀ ν, zDe μ0 ν a 2 (zc_World a) → Q ν) : zCv X false l d 1 5 y_World_init [(11, 0, (a : Int))] μ Q := by
  refine zC'_of (by decide +kernel) (Nat.le_of_ble_eq_true rfl) rfl ?_
  refine s_World_init_0 (by omega) ?_
  refine s_World_init_4 ?_
  have D1 := (D0.pu (r := 0) (a : Int) 0 0 rfl rfl).to (n' := 1) (ds := [(9, 0, zsu (zdf 9 0) 0 0)]) rfl rfl
  generalize zup (μ) (a : Int) 0 0 = μ1 at D1 ⊢
  refine s_World_init_9 ⟨by omega, ?_⟩
  rw [D1.1]
  have D2 := ((D1.new (t := 12) (L := 5)).pu (r := 0) (a : Int) 1 ((a + 1 : Nat) : Int) rfl rfl).to (n' := 2) (ds := [(9, 0, zsu (zsu (zdf 9 0) 0 0) 1 ((a + 1 : Nat) : Int)), (12, 5, zdf 12 5)]) rfl rfl
  generalize zup (zal μ1 12 5) (a : Int) 1 ((a + 1 : Nat) : Int) = μ2 at D2 ⊢
  exact hQ _ (D2.to rfl rfl)
def zc_Reader (a : Nat) : zCs := [(3, 0, zsu (zsu (zsu (zsu (zsu (zsu (zsu (zdf 3 0) 0 ((a + 1 : Nat) : Int)) 1 0) 2 0) 3 0) 4 0) 5 0) 6 ((a + 2 : Nat) : Int)), (12, 400, zdf 12 400)] ++ (zc_Law (a + 2))
theorem k_Reader_init {μ0 μ : zM} {a : Nat} {Q : zM → Prop} (D0 : zDe μ0 μ a 1 [(3, 0, zdf 3 0)]) (hd : 4 ≤ d) (hQ : ∀ ν, zDe μ0 ν a 9 (zc_Reader a) → Q ν) : zCv X false l d 8 1256 y_Reader_init [(5, 0, (a : Int))] μ Q := by
  refine zC'_of (by decide +kernel) (Nat.le_of_ble_eq_true rfl) rfl ?_
  refine s_Reader_init_0 (by omega) ?_
  refine s_Reader_init_4 ⟨by omega, ?_⟩
  rw [D0.1]
  have D1 := ((D0.new (t := 12) (L := 400)).pu (r := 0) (a : Int) 0 ((a + 1 : Nat) : Int) rfl rfl).to (n' := 2) (ds := [(3, 0, zsu (zdf 3 0) 0 ((a + 1 : Nat) : Int)), (12, 400, zdf 12 400)]) rfl rfl
  generalize zup (zal μ 12 400) (a : Int) 0 ((a + 1 : Nat) : Int) = μ1 at D1 ⊢
  refine s_Reader_init_13 ?_
  have D2 := (D1.pu (r := 0) (a : Int) 1 0 rfl rfl).to (n' := 2) (ds := [(3, 0, zsu (zsu (zdf 3 0) 0 ((a + 1 : Nat) : Int)) 1 0), (12, 400, zdf 12 400)]) rfl rfl
  generalize zup (μ1) (a : Int) 1 0 = μ2 at D2 ⊢
  refine s_Reader_init_18 ?_
  have D3 := (D2.pu (r := 0) (a : Int) 2 0 rfl rfl).to (n' := 2) (ds := [(3, 0, zsu (zsu (zsu (zdf 3 0) 0 ((a + 1 : Nat) : Int)) 1 0) 2 0), (12, 400, zdf 12 400)]) rfl rfl
  generalize zup (μ2) (a : Int) 2 0 = μ3 at D3 ⊢
  refine s_Reader_init_23 ?_
  have D4 := (D3.pu (r := 0) (a : Int) 3 0 rfl rfl).to (n' := 2) (ds := [(3, 0, zsu (zsu (zsu (zsu (zdf 3 0) 0 ((a + 1 : Nat) : Int)) 1 0) 2 0) 3 0), (12, 400, zdf 12 400)]) rfl rfl
  generalize zup (μ3) (a : Int) 3 0 = μ4 at D4 ⊢
  refine s_Reader_init_28 ?_
  have D5 := (D4.pu (r := 0) (a : Int) 4 0 rfl rfl).to (n' := 2) (ds := [(3, 0, zsu (zsu (zsu (zsu (zsu (zdf 3 0) 0 ((a + 1 : Nat) : Int)) 1 0) 2 0) 3 0) 4 0), (12, 400, zdf 12 400)]) rfl rfl
  generalize zup (μ4) (a : Int) 4 0 = μ5 at D5 ⊢
  refine s_Reader_init_33 ?_
  have D6 := (D5.pu (r := 0) (a : Int) 5 0 rfl rfl).to (n' := 2) (ds := [(3, 0, zsu (zsu (zsu (zsu (zsu (zsu (zdf 3 0) 0 ((a + 1 : Nat) : Int)) 1 0) 2 0) 3 0) 4 0) 5 0), (12, 400, zdf 12 400)]) rfl rfl
  generalize zup (μ5) (a : Int) 5 0 = μ6 at D6 ⊢
  refine s_Reader_init_38 (d1 := d - 1) (by omega) ⟨by decide, by decide, ?_⟩
  rw [D6.1]
  refine k_Law_init (((zDe.nil D6.1).new (t := 1) (L := 0)).to rfl rfl) (by omega) (fun ν7 E7 => ?_)
  have D7 := ((D6.sub E7).pu (r := 0) (a : Int) 6 ((a + 2 : Nat) : Int) rfl rfl).to (n' := 9) (ds := [(3, 0, zsu (zsu (zsu (zsu (zsu (zsu (zsu (zdf 3 0) 0 ((a + 1 : Nat) : Int)) 1 0) 2 0) 3 0) 4 0) 5 0) 6 ((a + 2 : Nat) : Int)), (12, 400, zdf 12 400)] ++ (zc_Law (a + 2))) rfl rfl
  generalize zup (ν7) (a : Int) 6 ((a + 2 : Nat) : Int) = μ7 at D7 ⊢
  exact hQ _ (D7.to rfl rfl)
def zc_Scene (a : Nat) : zCs := [(8, 0, zsu (zsu (zsu (zsu (zsu (zsu (zsu (zsu (zdf 8 0) 0 ((a + 1 : Nat) : Int)) 1 ((a + 7 : Nat) : Int)) 2 ((a + 11 : Nat) : Int)) 3 ((a + 12 : Nat) : Int)) 4 (-1)) 5 (-1)) 6 ((a + 13 : Nat) : Int)) 7 ((a + 14 : Nat) : Int))] ++ (zc_Plan (a + 1) ++ ([(18, 3, zsu (zsu (zsu (zdf 18 3) 0 ((a + 8 : Nat) : Int)) 1 ((a + 9 : Nat) : Int)) 2 ((a + 10 : Nat) : Int)), (12, 5, zdf 12 5), (12, 5, zdf 12 5), (12, 5, zdf 12 5), (12, 5, zdf 12 5), (12, 12, zdf 12 12), (12, 12, zdf 12 12), (13, 64, zdf 13 64)]))
theorem k_Scene_init {μ0 μ : zM} {a : Nat} {Q : zM → Prop} (D0 : zDe μ0 μ a 1 [(8, 0, zdf 8 0)]) (hd : 4 ≤ d) (hQ : ∀ ν, zDe μ0 ν a 15 (zc_Scene a) → Q ν) : zCv X false l d 14 142 y_Scene_init [(10, 0, (a : Int))] μ Q := by
  refine zC'_of (by decide +kernel) (Nat.le_of_ble_eq_true rfl) rfl ?_
  refine s_Scene_init_0 (by omega) ?_
  refine s_Scene_init_4 (d1 := d - 1) (by omega) ⟨by decide, by decide, ?_⟩
  rw [D0.1]
  refine k_Plan_init (((zDe.nil D0.1).new (t := 2) (L := 0)).to rfl rfl) (by omega) (fun ν1 E1 => ?_)
  have D1 := ((D0.sub E1).pu (r := 0) (a : Int) 0 ((a + 1 : Nat) : Int) rfl rfl).to (n' := 7) (ds := [(8, 0, zsu (zdf 8 0) 0 ((a + 1 : Nat) : Int))] ++ (zc_Plan (a + 1))) rfl rfl
  generalize zup (ν1) (a : Int) 0 ((a + 1 : Nat) : Int) = μ1 at D1 ⊢
  refine s_Scene_init_15 ⟨by omega, ?_⟩
  rw [D1.1]
  have D2 := (D1.multi.pu (r := 0) (a : Int) 1 ((a + 7 : Nat) : Int) rfl rfl).to (n' := 11) (ds := [(8, 0, zsu (zsu (zdf 8 0) 0 ((a + 1 : Nat) : Int)) 1 ((a + 7 : Nat) : Int))] ++ (zc_Plan (a + 1) ++ ([(18, 3, zsu (zsu (zsu (zdf 18 3) 0 ((a + 8 : Nat) : Int)) 1 ((a + 9 : Nat) : Int)) 2 ((a + 10 : Nat) : Int)), (12, 5, zdf 12 5), (12, 5, zdf 12 5), (12, 5, zdf 12 5)]))) rfl rfl
  generalize zup (zmu μ1) (a : Int) 1 ((a + 7 : Nat) : Int) = μ2 at D2 ⊢
  refine s_Scene_init_25 ⟨by omega, ?_⟩
  rw [D2.1]
  have D3 := ((D2.new (t := 12) (L := 5)).pu (r := 0) (a : Int) 2 ((a + 11 : Nat) : Int) rfl rfl).to (n' := 12) (ds := [(8, 0, zsu (zsu (zsu (zdf 8 0) 0 ((a + 1 : Nat) : Int)) 1 ((a + 7 : Nat) : Int)) 2 ((a + 11 : Nat) : Int))] ++ (zc_Plan (a + 1) ++ ([(18, 3, zsu (zsu (zsu (zdf 18 3) 0 ((a + 8 : Nat) : Int)) 1 ((a + 9 : Nat) : Int)) 2 ((a + 10 : Nat) : Int)), (12, 5, zdf 12 5), (12, 5, zdf 12 5), (12, 5, zdf 12 5), (12, 5, zdf 12 5)]))) rfl rfl
  generalize zup (zal μ2 12 5) (a : Int) 2 ((a + 11 : Nat) : Int) = μ3 at D3 ⊢
  refine s_Scene_init_32 ⟨by omega, ?_⟩
  rw [D3.1]
  have D4 := ((D3.new (t := 12) (L := 12)).pu (r := 0) (a : Int) 3 ((a + 12 : Nat) : Int) rfl rfl).to (n' := 13) (ds := [(8, 0, zsu (zsu (zsu (zsu (zdf 8 0) 0 ((a + 1 : Nat) : Int)) 1 ((a + 7 : Nat) : Int)) 2 ((a + 11 : Nat) : Int)) 3 ((a + 12 : Nat) : Int))] ++ (zc_Plan (a + 1) ++ ([(18, 3, zsu (zsu (zsu (zdf 18 3) 0 ((a + 8 : Nat) : Int)) 1 ((a + 9 : Nat) : Int)) 2 ((a + 10 : Nat) : Int)), (12, 5, zdf 12 5), (12, 5, zdf 12 5), (12, 5, zdf 12 5), (12, 5, zdf 12 5), (12, 12, zdf 12 12)]))) rfl rfl
  generalize zup (zal μ3 12 12) (a : Int) 3 ((a + 12 : Nat) : Int) = μ4 at D4 ⊢
  refine s_Scene_init_40 ?_
  have D5 := (D4.pu (r := 0) (a : Int) 4 (-1) rfl rfl).to (n' := 13) (ds := [(8, 0, zsu (zsu (zsu (zsu (zsu (zdf 8 0) 0 ((a + 1 : Nat) : Int)) 1 ((a + 7 : Nat) : Int)) 2 ((a + 11 : Nat) : Int)) 3 ((a + 12 : Nat) : Int)) 4 (-1))] ++ (zc_Plan (a + 1) ++ ([(18, 3, zsu (zsu (zsu (zdf 18 3) 0 ((a + 8 : Nat) : Int)) 1 ((a + 9 : Nat) : Int)) 2 ((a + 10 : Nat) : Int)), (12, 5, zdf 12 5), (12, 5, zdf 12 5), (12, 5, zdf 12 5), (12, 5, zdf 12 5), (12, 12, zdf 12 12)]))) rfl rfl
  generalize zup (μ4) (a : Int) 4 (-1) = μ5 at D5 ⊢
  refine s_Scene_init_45 ?_
  have D6 := (D5.pu (r := 0) (a : Int) 5 (-1) rfl rfl).to (n' := 13) (ds := [(8, 0, zsu (zsu (zsu (zsu (zsu (zsu (zdf 8 0) 0 ((a + 1 : Nat) : Int)) 1 ((a + 7 : Nat) : Int)) 2 ((a + 11 : Nat) : Int)) 3 ((a + 12 : Nat) : Int)) 4 (-1)) 5 (-1))] ++ (zc_Plan (a + 1) ++ ([(18, 3, zsu (zsu (zsu (zdf 18 3) 0 ((a + 8 : Nat) : Int)) 1 ((a + 9 : Nat) : Int)) 2 ((a + 10 : Nat) : Int)), (12, 5, zdf 12 5), (12, 5, zdf 12 5), (12, 5, zdf 12 5), (12, 5, zdf 12 5), (12, 12, zdf 12 12)]))) rfl rfl
  generalize zup (μ5) (a : Int) 5 (-1) = μ6 at D6 ⊢
  refine s_Scene_init_50 ⟨by omega, ?_⟩
  rw [D6.1]
  have D7 := ((D6.new (t := 12) (L := 12)).pu (r := 0) (a : Int) 6 ((a + 13 : Nat) : Int) rfl rfl).to (n' := 14) (ds := [(8, 0, zsu (zsu (zsu (zsu (zsu (zsu (zsu (zdf 8 0) 0 ((a + 1 : Nat) : Int)) 1 ((a + 7 : Nat) : Int)) 2 ((a + 11 : Nat) : Int)) 3 ((a + 12 : Nat) : Int)) 4 (-1)) 5 (-1)) 6 ((a + 13 : Nat) : Int))] ++ (zc_Plan (a + 1) ++ ([(18, 3, zsu (zsu (zsu (zdf 18 3) 0 ((a + 8 : Nat) : Int)) 1 ((a + 9 : Nat) : Int)) 2 ((a + 10 : Nat) : Int)), (12, 5, zdf 12 5), (12, 5, zdf 12 5), (12, 5, zdf 12 5), (12, 5, zdf 12 5), (12, 12, zdf 12 12), (12, 12, zdf 12 12)]))) rfl rfl
  generalize zup (zal μ6 12 12) (a : Int) 6 ((a + 13 : Nat) : Int) = μ7 at D7 ⊢
  refine s_Scene_init_58 ⟨by omega, ?_⟩
  rw [D7.1]
  have D8 := ((D7.new (t := 13) (L := 64)).pu (r := 0) (a : Int) 7 ((a + 14 : Nat) : Int) rfl rfl).to (n' := 15) (ds := [(8, 0, zsu (zsu (zsu (zsu (zsu (zsu (zsu (zsu (zdf 8 0) 0 ((a + 1 : Nat) : Int)) 1 ((a + 7 : Nat) : Int)) 2 ((a + 11 : Nat) : Int)) 3 ((a + 12 : Nat) : Int)) 4 (-1)) 5 (-1)) 6 ((a + 13 : Nat) : Int)) 7 ((a + 14 : Nat) : Int))] ++ (zc_Plan (a + 1) ++ ([(18, 3, zsu (zsu (zsu (zdf 18 3) 0 ((a + 8 : Nat) : Int)) 1 ((a + 9 : Nat) : Int)) 2 ((a + 10 : Nat) : Int)), (12, 5, zdf 12 5), (12, 5, zdf 12 5), (12, 5, zdf 12 5), (12, 5, zdf 12 5), (12, 12, zdf 12 12), (12, 12, zdf 12 12), (13, 64, zdf 13 64)]))) rfl rfl
  generalize zup (zal μ7 13 64) (a : Int) 7 ((a + 14 : Nat) : Int) = μ8 at D8 ⊢
  exact hQ _ (D8.to rfl rfl)
end

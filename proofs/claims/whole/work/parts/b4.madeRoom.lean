/-! the constructors: loops -/
def zar (c st i : Nat) : Int → Int := fun j => if 0 ≤ j ∧ j < i then ((c + st * j.toNat : Nat) : Int) else -1
theorem zar_succ {c st i : Nat} {v : Int} (h : v = ((c + st * i : Nat) : Int)) : zsu (zar c st i) i v = zar c st (i + 1) := by
  subst h
  funext j
  unfold zsu zar
  by_cases e : j = i
  · subst e
    rw [if_pos rfl, if_pos ⟨by omega, by omega⟩]
    rfl
  · rw [if_neg e]
    by_cases e2 : 0 ≤ j ∧ j < i
    · rw [if_pos e2, if_pos ⟨e2.1, by omega⟩]
    · rw [if_neg e2, if_neg (fun z => e2 ⟨z.1, by omega⟩)]
theorem zar_zero {c st t L : Nat} (h : ∀ j : Nat, 100 ≤ (zsk t L j).1) : zdf t L = zar c st 0 := by
  funext j
  unfold zdf zar
  rw [if_pos (h _), if_neg (by omega)]
def zfla (G : Nat → zCs) (i : Nat) : zCs := (List.range i).flatMap G
theorem zfla_succ (G : Nat → zCs) (i : Nat) : zfla G (i + 1) = zfla G i ++ G i := by
  unfold zfla
  rw [List.range_succ, List.flatMap_append]
  simp
theorem zDe.subput {μ0 μ ν : zM} {a n m : Nat} {A B ds : zCs} {r t L : Nat} {f : Int → Int} (c i v : Int) (D : zDe μ0 μ a n (A ++ B)) (E : zDe μ ν (a + n) m ds) (hx : A[r]? = some (t, L, f)) (hc : c = ((a + r : Nat) : Int)) : zDe μ0 (zup ν c i v) a (n + m) (A.set r (t, L, zsu f i v) ++ (B ++ ds)) := by
  have S := D.sub E
  have hl : r < A.length := (List.getElem?_eq_some_iff.mp hx).1
  have hx2 : ((A ++ B) ++ ds)[r]? = some (t, L, f) := by rw [List.append_assoc, List.getElem?_append_left hl]; exact hx
  refine (S.pu c i v hx2 hc).to ?_ rfl
  rw [List.append_assoc, List.set_append_left _ _ hl]
theorem zDe.pum {μ0 μ : zM} {a n : Nat} {A B : zCs} {r t L : Nat} {f : Int → Int} (c i v : Int) (D : zDe μ0 μ a n (A ++ B)) (hx : A[r]? = some (t, L, f)) (hc : c = ((a + r : Nat) : Int)) : zDe μ0 (zup μ c i v) a n (A.set r (t, L, zsu f i v) ++ B) := by
  have hl : r < A.length := (List.getElem?_eq_some_iff.mp hx).1
  refine (D.pu c i v (by rw [List.getElem?_append_left hl]; exact hx) hc).to ?_ rfl
  rw [List.set_append_left _ _ hl]
theorem zDe.gem {μ0 μ : zM} {a n : Nat} {A B : zCs} {r t L : Nat} {f : Int → Int} (c i : Int) (D : zDe μ0 μ a n (A ++ B)) (hx : A[r]? = some (t, L, f)) (hc : c = ((a + r : Nat) : Int)) : μ c i = f i := D.ge c i (by rw [List.getElem?_append_left (List.getElem?_eq_some_iff.mp hx).1]; exact hx) hc
def zsiz (i : Nat) : Int → Int := fun j => if 0 ≤ j ∧ j < i then (if 10 * j + 10 < 99 then 10 * j + 10 else 99) else 0
theorem zsiz_succ {i : Nat} {v : Int} (h : v = (if 10 * (i : Int) + 10 < 99 then 10 * (i : Int) + 10 else 99)) : zsu (zsiz i) i v = zsiz (i + 1) := by
  subst h
  funext j
  unfold zsu zsiz
  by_cases e : j = i
  · subst e
    rw [if_pos rfl, if_pos (show 0 ≤ (i : Int) ∧ (i : Int) < ((i + 1 : Nat) : Int) by omega)]
  · rw [if_neg e]
    by_cases e2 : 0 ≤ j ∧ j < i
    · rw [if_pos e2, if_pos (show 0 ≤ j ∧ j < ((i + 1 : Nat) : Int) by omega)]
    · rw [if_neg e2, if_neg (show ¬ (0 ≤ j ∧ j < ((i + 1 : Nat) : Int)) by omega)]
theorem zsiz_zero : zdf 12 12 = zsiz 0 := by
  funext j
  unfold zsiz
  rw [if_neg (by omega)]
  rfl
section
variable {X : zX} {l : Launch} {d : Nat}
def zp_Room (a : Nat) (f1 f7 f8 : Int → Int) : zCs := [(5, 0, zsu (zsu (zsu (zsu (zsu (zsu (zsu (zsu (zsu (zsu (zsu (zsu (zsu (zdf 5 0) 0 0) 1 ((a + 1 : Nat) : Int)) 2 ((a + 2 : Nat) : Int)) 3 ((a + 6 : Nat) : Int)) 4 6) 5 ((a + 7 : Nat) : Int)) 6 ((a + 8 : Nat) : Int)) 7 0) 8 ((a + 9 : Nat) : Int)) 9 (-1)) 10 ((a + 10 : Nat) : Int)) 11 ((a + 14 : Nat) : Int)) 12 ((a + 18 : Nat) : Int)), (16, 6, f1), (18, 3, zsu (zsu (zsu (zdf 18 3) 0 ((a + 3 : Nat) : Int)) 1 ((a + 4 : Nat) : Int)) 2 ((a + 5 : Nat) : Int)), (12, 5, zdf 12 5), (12, 5, zdf 12 5), (12, 5, zdf 12 5), (12, 5, zdf 12 5), (12, 12, f7), (17, 4, f8), (12, 4, zdf 12 4)] ++ (zc_Rows 8 (a + 10) ++ (zc_Rows 40 (a + 14) ++ (zc_Rows 40 (a + 18))))
def zc_Room (a : Nat) : zCs := zp_Room a (zar (a + 22) 6 6) (zsiz 12) (zar (a + 58) 7 4) ++ (zfla (fun s => zc_Plan (a + (22 + 6 * s))) 6 ++ zfla (fun s => zc_Law (a + (58 + 7 * s))) 4)
theorem k_Room_lp3 {μ0 : zM} {a : Nat} {Q : zM → Prop} (hd : 4 ≤ d) (hQ : ∀ ν, zDe μ0 ν a 86 (zc_Room a) → Q ν) : ∀ k i : Nat, i + k = 12 → ∀ μ, zDe μ0 μ a 86 (zp_Room a (zar (a + 22) 6 6) (zsiz i) (zar (a + 58) 7 4) ++ (zfla (fun s => zc_Plan (a + (22 + 6 * s))) 6 ++ zfla (fun s => zc_Law (a + (58 + 7 * s))) 4)) → zE X false l d 0 0 y_Room_init 168 [some (7, 0, (a : Int)), some (0, 0, (i : Int))] [] μ (zrn Q) := by
  intro k
  induction k with
  | zero =>
    intro i hi μ D
    obtain rfl : i = 12 := by omega
    exact s_Room_init_168 ⟨fun _ => hQ μ D, fun z => absurd (by decide) z⟩
  | succ k ih =>
    intro i hi μ D
    refine s_Room_init_168 ⟨fun z => absurd z (by omega), fun _ => s_Room_init_174 (by omega) ?_⟩
    have e5 : μ (a : Int) 5 = ((a + 7 : Nat) : Int) := (D.gem (r := 0) (a : Int) 5 rfl rfl).trans rfl
    rw [e5, zw_of (show -2147483648 ≤ 10 * (i : Int) by omega) (by omega), zw_of (show -2147483648 ≤ 10 * (i : Int) + 10 by omega) (by omega), zw_of (show -2147483648 ≤ (i : Int) + 1 by omega) (by omega)]
    refine ⟨by omega, by omega, ih (i + 1) (by omega) _ ((D.pum (r := 7) ((a + 7 : Nat) : Int) (i : Int) _ rfl rfl).to ?_ rfl)⟩
    rw [zsiz_succ rfl]
    rfl
theorem k_Room_lp2 {μ0 : zM} {a : Nat} {Q : zM → Prop} (hd : 4 ≤ d) (hQ : ∀ ν, zDe μ0 ν a 86 (zc_Room a) → Q ν) : ∀ k i : Nat, i + k = 4 → ∀ μ, zDe μ0 μ a (58 + 7 * i) (zp_Room a (zar (a + 22) 6 6) (zdf 12 12) (zar (a + 58) 7 i) ++ (zfla (fun s => zc_Plan (a + (22 + 6 * s))) 6 ++ zfla (fun s => zc_Law (a + (58 + 7 * s))) i)) → zE X false l d (7 * (4 - i)) (856 * (4 - i)) y_Room_init 142 [some (7, 0, (a : Int)), some (0, 0, (i : Int))] [] μ (zrn Q) := by
  intro k
  induction k with
  | zero =>
    intro i hi μ D
    obtain rfl : i = 4 := by omega
    refine s_Room_init_142 ⟨fun _ => s_Room_init_166 (zE_bud (by omega) (by omega) (k_Room_lp3 hd hQ 12 0 (by omega) μ (D.to ?_ rfl))), fun z => absurd (by decide) z⟩
    rw [zsiz_zero]
  | succ k ih =>
    intro i hi μ D
    refine s_Room_init_142 ⟨fun z => absurd z (by omega), fun _ => s_Room_init_147 (d1 := d - 1) (by omega) ?_⟩
    have e6 : μ (a : Int) 6 = ((a + 8 : Nat) : Int) := (D.gem (r := 0) (a : Int) 6 rfl rfl).trans rfl
    rw [e6, D.1, zw_of (show -2147483648 ≤ (i : Int) + 1 by omega) (by omega)]
    refine ⟨by omega, by omega, by omega, k_Law_init (((zDe.nil D.1).new (t := 1) (L := 0)).to rfl rfl) (by omega) (fun ν E => ⟨by omega, zE_bud (by omega) (by omega) (ih (i + 1) (by omega) _ ((D.subput (r := 8) ((a + 8 : Nat) : Int) (i : Int) ((a + (58 + 7 * i) : Nat) : Int) E rfl rfl).to ?_ (by omega)))⟩)⟩
    rw [zar_succ (c := a + 58) (st := 7) (by rw [Nat.add_assoc]), zfla_succ (fun s => zc_Law (a + (58 + 7 * s))) i, List.append_assoc]
    rfl
theorem k_Room_lp1 {μ0 : zM} {a : Nat} {Q : zM → Prop} (hd : 4 ≤ d) (hQ : ∀ ν, zDe μ0 ν a 86 (zc_Room a) → Q ν) : ∀ k i : Nat, i + k = 6 → ∀ μ, zDe μ0 μ a (22 + 6 * i) (zp_Room a (zar (a + 22) 6 i) (zdf 12 12) (zdf 17 4) ++ zfla (fun s => zc_Plan (a + (22 + 6 * s))) i) → zE X false l d (6 * (6 - i) + 28) (31 * (6 - i) + 3424) y_Room_init 115 [some (7, 0, (a : Int)), some (0, 0, (i : Int))] [] μ (zrn Q) := by
  intro k
  induction k with
  | zero =>
    intro i hi μ D
    obtain rfl : i = 6 := by omega
    refine s_Room_init_115 ⟨fun _ => s_Room_init_140 (zE_bud (by omega) (by omega) (k_Room_lp2 hd hQ 4 0 (by omega) μ (D.to ?_ rfl))), fun z => absurd (by decide) z⟩
    rw [zar_zero (t := 17) (L := 4) (c := a + 58) (st := 7) (fun _ => Nat.le_of_ble_eq_true rfl)]
    show _ = _ ++ (_ ++ [])
    rw [List.append_nil]
  | succ k ih =>
    intro i hi μ D
    refine s_Room_init_115 ⟨fun z => absurd z (by omega), fun _ => s_Room_init_121 (d1 := d - 1) (by omega) ?_⟩
    have e6 : μ (a : Int) 1 = ((a + 1 : Nat) : Int) := (D.gem (r := 0) (a : Int) 1 rfl rfl).trans rfl
    rw [e6, D.1, zw_of (show -2147483648 ≤ (i : Int) + 1 by omega) (by omega)]
    refine ⟨by omega, by omega, by omega, k_Plan_init (((zDe.nil D.1).new (t := 2) (L := 0)).to rfl rfl) (by omega) (fun ν E => ⟨by omega, zE_bud (by omega) (by omega) (ih (i + 1) (by omega) _ ((D.subput (r := 1) ((a + 1 : Nat) : Int) (i : Int) ((a + (22 + 6 * i) : Nat) : Int) E rfl rfl).to ?_ (by omega)))⟩)⟩
    rw [zar_succ (c := a + 22) (st := 6) (by rw [Nat.add_assoc]), zfla_succ (fun s => zc_Plan (a + (22 + 6 * s))) i]
    rfl
theorem k_Room_init {μ0 μ : zM} {a : Nat} {Q : zM → Prop} (D0 : zDe μ0 μ a 1 [(5, 0, zdf 5 0)]) (hd : 4 ≤ d) (hQ : ∀ ν, zDe μ0 ν a 86 (zc_Room a) → Q ν) : zCv X false l d 85 3938 y_Room_init [(7, 0, (a : Int))] μ Q := by
  refine zC'_of (by decide +kernel) (Nat.le_of_ble_eq_true rfl) rfl ?_
  refine s_Room_init_0 (by omega) ?_
  refine s_Room_init_4 ?_
  have D1 := (D0.pu (r := 0) (a : Int) 0 0 rfl rfl).to (n' := 1) (ds := [(5, 0, zsu (zdf 5 0) 0 0)]) rfl rfl
  generalize zup (μ) (a : Int) 0 0 = μ1 at D1 ⊢
  refine s_Room_init_9 ⟨by omega, ?_⟩
  rw [D1.1]
  have D2 := ((D1.new (t := 16) (L := 6)).pu (r := 0) (a : Int) 1 ((a + 1 : Nat) : Int) rfl rfl).to (n' := 2) (ds := [(5, 0, zsu (zsu (zdf 5 0) 0 0) 1 ((a + 1 : Nat) : Int)), (16, 6, zdf 16 6)]) rfl rfl
  generalize zup (zal μ1 16 6) (a : Int) 1 ((a + 1 : Nat) : Int) = μ2 at D2 ⊢
  refine s_Room_init_18 ⟨by omega, ?_⟩
  rw [D2.1]
  have D3 := (D2.multi.pu (r := 0) (a : Int) 2 ((a + 2 : Nat) : Int) rfl rfl).to (n' := 6) (ds := [(5, 0, zsu (zsu (zsu (zdf 5 0) 0 0) 1 ((a + 1 : Nat) : Int)) 2 ((a + 2 : Nat) : Int)), (16, 6, zdf 16 6), (18, 3, zsu (zsu (zsu (zdf 18 3) 0 ((a + 3 : Nat) : Int)) 1 ((a + 4 : Nat) : Int)) 2 ((a + 5 : Nat) : Int)), (12, 5, zdf 12 5), (12, 5, zdf 12 5), (12, 5, zdf 12 5)]) rfl rfl
  generalize zup (zmu μ2) (a : Int) 2 ((a + 2 : Nat) : Int) = μ3 at D3 ⊢
  refine s_Room_init_28 ⟨by omega, ?_⟩
  rw [D3.1]
  have D4 := ((D3.new (t := 12) (L := 5)).pu (r := 0) (a : Int) 3 ((a + 6 : Nat) : Int) rfl rfl).to (n' := 7) (ds := [(5, 0, zsu (zsu (zsu (zsu (zdf 5 0) 0 0) 1 ((a + 1 : Nat) : Int)) 2 ((a + 2 : Nat) : Int)) 3 ((a + 6 : Nat) : Int)), (16, 6, zdf 16 6), (18, 3, zsu (zsu (zsu (zdf 18 3) 0 ((a + 3 : Nat) : Int)) 1 ((a + 4 : Nat) : Int)) 2 ((a + 5 : Nat) : Int)), (12, 5, zdf 12 5), (12, 5, zdf 12 5), (12, 5, zdf 12 5), (12, 5, zdf 12 5)]) rfl rfl
  generalize zup (zal μ3 12 5) (a : Int) 3 ((a + 6 : Nat) : Int) = μ4 at D4 ⊢
  refine s_Room_init_35 ?_
  have D5 := (D4.pu (r := 0) (a : Int) 4 6 rfl rfl).to (n' := 7) (ds := [(5, 0, zsu (zsu (zsu (zsu (zsu (zdf 5 0) 0 0) 1 ((a + 1 : Nat) : Int)) 2 ((a + 2 : Nat) : Int)) 3 ((a + 6 : Nat) : Int)) 4 6), (16, 6, zdf 16 6), (18, 3, zsu (zsu (zsu (zdf 18 3) 0 ((a + 3 : Nat) : Int)) 1 ((a + 4 : Nat) : Int)) 2 ((a + 5 : Nat) : Int)), (12, 5, zdf 12 5), (12, 5, zdf 12 5), (12, 5, zdf 12 5), (12, 5, zdf 12 5)]) rfl rfl
  generalize zup (μ4) (a : Int) 4 6 = μ5 at D5 ⊢
  refine s_Room_init_41 ⟨by omega, ?_⟩
  rw [D5.1]
  have D6 := ((D5.new (t := 12) (L := 12)).pu (r := 0) (a : Int) 5 ((a + 7 : Nat) : Int) rfl rfl).to (n' := 8) (ds := [(5, 0, zsu (zsu (zsu (zsu (zsu (zsu (zdf 5 0) 0 0) 1 ((a + 1 : Nat) : Int)) 2 ((a + 2 : Nat) : Int)) 3 ((a + 6 : Nat) : Int)) 4 6) 5 ((a + 7 : Nat) : Int)), (16, 6, zdf 16 6), (18, 3, zsu (zsu (zsu (zdf 18 3) 0 ((a + 3 : Nat) : Int)) 1 ((a + 4 : Nat) : Int)) 2 ((a + 5 : Nat) : Int)), (12, 5, zdf 12 5), (12, 5, zdf 12 5), (12, 5, zdf 12 5), (12, 5, zdf 12 5), (12, 12, zdf 12 12)]) rfl rfl
  generalize zup (zal μ5 12 12) (a : Int) 5 ((a + 7 : Nat) : Int) = μ6 at D6 ⊢
  refine s_Room_init_49 ⟨by omega, ?_⟩
  rw [D6.1]
  have D7 := ((D6.new (t := 17) (L := 4)).pu (r := 0) (a : Int) 6 ((a + 8 : Nat) : Int) rfl rfl).to (n' := 9) (ds := [(5, 0, zsu (zsu (zsu (zsu (zsu (zsu (zsu (zdf 5 0) 0 0) 1 ((a + 1 : Nat) : Int)) 2 ((a + 2 : Nat) : Int)) 3 ((a + 6 : Nat) : Int)) 4 6) 5 ((a + 7 : Nat) : Int)) 6 ((a + 8 : Nat) : Int)), (16, 6, zdf 16 6), (18, 3, zsu (zsu (zsu (zdf 18 3) 0 ((a + 3 : Nat) : Int)) 1 ((a + 4 : Nat) : Int)) 2 ((a + 5 : Nat) : Int)), (12, 5, zdf 12 5), (12, 5, zdf 12 5), (12, 5, zdf 12 5), (12, 5, zdf 12 5), (12, 12, zdf 12 12), (17, 4, zdf 17 4)]) rfl rfl
  generalize zup (zal μ6 17 4) (a : Int) 6 ((a + 8 : Nat) : Int) = μ7 at D7 ⊢
  refine s_Room_init_57 ?_
  have D8 := (D7.pu (r := 0) (a : Int) 7 0 rfl rfl).to (n' := 9) (ds := [(5, 0, zsu (zsu (zsu (zsu (zsu (zsu (zsu (zsu (zdf 5 0) 0 0) 1 ((a + 1 : Nat) : Int)) 2 ((a + 2 : Nat) : Int)) 3 ((a + 6 : Nat) : Int)) 4 6) 5 ((a + 7 : Nat) : Int)) 6 ((a + 8 : Nat) : Int)) 7 0), (16, 6, zdf 16 6), (18, 3, zsu (zsu (zsu (zdf 18 3) 0 ((a + 3 : Nat) : Int)) 1 ((a + 4 : Nat) : Int)) 2 ((a + 5 : Nat) : Int)), (12, 5, zdf 12 5), (12, 5, zdf 12 5), (12, 5, zdf 12 5), (12, 5, zdf 12 5), (12, 12, zdf 12 12), (17, 4, zdf 17 4)]) rfl rfl
  generalize zup (μ7) (a : Int) 7 0 = μ8 at D8 ⊢
  refine s_Room_init_62 ⟨by omega, ?_⟩
  rw [D8.1]
  have D9 := ((D8.new (t := 12) (L := 4)).pu (r := 0) (a : Int) 8 ((a + 9 : Nat) : Int) rfl rfl).to (n' := 10) (ds := [(5, 0, zsu (zsu (zsu (zsu (zsu (zsu (zsu (zsu (zsu (zdf 5 0) 0 0) 1 ((a + 1 : Nat) : Int)) 2 ((a + 2 : Nat) : Int)) 3 ((a + 6 : Nat) : Int)) 4 6) 5 ((a + 7 : Nat) : Int)) 6 ((a + 8 : Nat) : Int)) 7 0) 8 ((a + 9 : Nat) : Int)), (16, 6, zdf 16 6), (18, 3, zsu (zsu (zsu (zdf 18 3) 0 ((a + 3 : Nat) : Int)) 1 ((a + 4 : Nat) : Int)) 2 ((a + 5 : Nat) : Int)), (12, 5, zdf 12 5), (12, 5, zdf 12 5), (12, 5, zdf 12 5), (12, 5, zdf 12 5), (12, 12, zdf 12 12), (17, 4, zdf 17 4), (12, 4, zdf 12 4)]) rfl rfl
  generalize zup (zal μ8 12 4) (a : Int) 8 ((a + 9 : Nat) : Int) = μ9 at D9 ⊢
  refine s_Room_init_69 ?_
  have D10 := (D9.pu (r := 0) (a : Int) 9 (-1) rfl rfl).to (n' := 10) (ds := [(5, 0, zsu (zsu (zsu (zsu (zsu (zsu (zsu (zsu (zsu (zsu (zdf 5 0) 0 0) 1 ((a + 1 : Nat) : Int)) 2 ((a + 2 : Nat) : Int)) 3 ((a + 6 : Nat) : Int)) 4 6) 5 ((a + 7 : Nat) : Int)) 6 ((a + 8 : Nat) : Int)) 7 0) 8 ((a + 9 : Nat) : Int)) 9 (-1)), (16, 6, zdf 16 6), (18, 3, zsu (zsu (zsu (zdf 18 3) 0 ((a + 3 : Nat) : Int)) 1 ((a + 4 : Nat) : Int)) 2 ((a + 5 : Nat) : Int)), (12, 5, zdf 12 5), (12, 5, zdf 12 5), (12, 5, zdf 12 5), (12, 5, zdf 12 5), (12, 12, zdf 12 12), (17, 4, zdf 17 4), (12, 4, zdf 12 4)]) rfl rfl
  generalize zup (μ9) (a : Int) 9 (-1) = μ10 at D10 ⊢
  refine s_Room_init_74 (d1 := d - 1) (by omega) ⟨by decide, by decide, ?_⟩
  rw [D10.1]
  refine k_Rows_init (n := 8) (((zDe.nil D10.1).new (t := 6) (L := 8)).to rfl rfl) (by omega) (by decide) (by decide) (fun ν11 E11 => ?_)
  have D11 := ((D10.sub E11).pu (r := 0) (a : Int) 10 ((a + 10 : Nat) : Int) rfl rfl).to (n' := 14) (ds := [(5, 0, zsu (zsu (zsu (zsu (zsu (zsu (zsu (zsu (zsu (zsu (zsu (zdf 5 0) 0 0) 1 ((a + 1 : Nat) : Int)) 2 ((a + 2 : Nat) : Int)) 3 ((a + 6 : Nat) : Int)) 4 6) 5 ((a + 7 : Nat) : Int)) 6 ((a + 8 : Nat) : Int)) 7 0) 8 ((a + 9 : Nat) : Int)) 9 (-1)) 10 ((a + 10 : Nat) : Int)), (16, 6, zdf 16 6), (18, 3, zsu (zsu (zsu (zdf 18 3) 0 ((a + 3 : Nat) : Int)) 1 ((a + 4 : Nat) : Int)) 2 ((a + 5 : Nat) : Int)), (12, 5, zdf 12 5), (12, 5, zdf 12 5), (12, 5, zdf 12 5), (12, 5, zdf 12 5), (12, 12, zdf 12 12), (17, 4, zdf 17 4), (12, 4, zdf 12 4)] ++ (zc_Rows 8 (a + 10))) rfl rfl
  generalize zup (ν11) (a : Int) 10 ((a + 10 : Nat) : Int) = μ11 at D11 ⊢
  refine s_Room_init_87 (d1 := d - 1) (by omega) ⟨by decide, by decide, ?_⟩
  rw [D11.1]
  refine k_Rows_init (n := 40) (((zDe.nil D11.1).new (t := 6) (L := 40)).to rfl rfl) (by omega) (by decide) (by decide) (fun ν12 E12 => ?_)
  have D12 := ((D11.sub E12).pu (r := 0) (a : Int) 11 ((a + 14 : Nat) : Int) rfl rfl).to (n' := 18) (ds := [(5, 0, zsu (zsu (zsu (zsu (zsu (zsu (zsu (zsu (zsu (zsu (zsu (zsu (zdf 5 0) 0 0) 1 ((a + 1 : Nat) : Int)) 2 ((a + 2 : Nat) : Int)) 3 ((a + 6 : Nat) : Int)) 4 6) 5 ((a + 7 : Nat) : Int)) 6 ((a + 8 : Nat) : Int)) 7 0) 8 ((a + 9 : Nat) : Int)) 9 (-1)) 10 ((a + 10 : Nat) : Int)) 11 ((a + 14 : Nat) : Int)), (16, 6, zdf 16 6), (18, 3, zsu (zsu (zsu (zdf 18 3) 0 ((a + 3 : Nat) : Int)) 1 ((a + 4 : Nat) : Int)) 2 ((a + 5 : Nat) : Int)), (12, 5, zdf 12 5), (12, 5, zdf 12 5), (12, 5, zdf 12 5), (12, 5, zdf 12 5), (12, 12, zdf 12 12), (17, 4, zdf 17 4), (12, 4, zdf 12 4)] ++ (zc_Rows 8 (a + 10) ++ (zc_Rows 40 (a + 14)))) rfl rfl
  generalize zup (ν12) (a : Int) 11 ((a + 14 : Nat) : Int) = μ12 at D12 ⊢
  refine s_Room_init_100 (d1 := d - 1) (by omega) ⟨by decide, by decide, ?_⟩
  rw [D12.1]
  refine k_Rows_init (n := 40) (((zDe.nil D12.1).new (t := 6) (L := 40)).to rfl rfl) (by omega) (by decide) (by decide) (fun ν13 E13 => ?_)
  have D13 := ((D12.sub E13).pu (r := 0) (a : Int) 12 ((a + 18 : Nat) : Int) rfl rfl).to (n' := 22) (ds := [(5, 0, zsu (zsu (zsu (zsu (zsu (zsu (zsu (zsu (zsu (zsu (zsu (zsu (zsu (zdf 5 0) 0 0) 1 ((a + 1 : Nat) : Int)) 2 ((a + 2 : Nat) : Int)) 3 ((a + 6 : Nat) : Int)) 4 6) 5 ((a + 7 : Nat) : Int)) 6 ((a + 8 : Nat) : Int)) 7 0) 8 ((a + 9 : Nat) : Int)) 9 (-1)) 10 ((a + 10 : Nat) : Int)) 11 ((a + 14 : Nat) : Int)) 12 ((a + 18 : Nat) : Int)), (16, 6, zdf 16 6), (18, 3, zsu (zsu (zsu (zdf 18 3) 0 ((a + 3 : Nat) : Int)) 1 ((a + 4 : Nat) : Int)) 2 ((a + 5 : Nat) : Int)), (12, 5, zdf 12 5), (12, 5, zdf 12 5), (12, 5, zdf 12 5), (12, 5, zdf 12 5), (12, 12, zdf 12 12), (17, 4, zdf 17 4), (12, 4, zdf 12 4)] ++ (zc_Rows 8 (a + 10) ++ (zc_Rows 40 (a + 14) ++ (zc_Rows 40 (a + 18))))) rfl rfl
  generalize zup (ν13) (a : Int) 12 ((a + 18 : Nat) : Int) = μ13 at D13 ⊢
  refine s_Room_init_113 (zE_bud (by omega) (by omega) (k_Room_lp1 hd hQ 6 0 (by omega) _ (D13.to ?_ rfl)))
  rw [← zar_zero (t := 16) (L := 6) (c := a + 22) (st := 6) (fun _ => Nat.le_of_ble_eq_true rfl)]
  rfl
end

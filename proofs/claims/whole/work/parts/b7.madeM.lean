/-! the constructors: SmokeRoomModel -/
def zrun (f : Int → Int) (b v : Int) (i : Nat) : Int → Int := fun j => if b ≤ j ∧ j < b + i then v else f j
theorem zrun_succ {f : Int → Int} {b v c : Int} {i : Nat} (h : c = b + i) : zsu (zrun f b v i) c v = zrun f b v (i + 1) := by
  subst h
  funext j
  unfold zsu zrun
  by_cases e : j = b + i
  · rw [if_pos e, if_pos ⟨by omega, by omega⟩]
  · rw [if_neg e]
    by_cases e2 : b ≤ j ∧ j < b + i
    · rw [if_pos e2, if_pos ⟨e2.1, by omega⟩]
    · rw [if_neg e2, if_neg (fun z => e2 ⟨z.1, by omega⟩)]
theorem zrun_zero {f : Int → Int} {b v : Int} : zrun f b v 0 = f := by
  funext j
  unfold zrun
  rw [if_neg (by omega)]
def zrus (f : Int → Int) (i : Nat) : Int → Int := fun j => if 200 ≤ j ∧ j < 200 + i then (if 99 ≤ 10 * (j - 200) + 10 then 99 else 10 * (j - 200) + 10) else f j
theorem zrus_succ {f : Int → Int} {v c : Int} {i : Nat} (h : c = 200 + i) (hv : v = (if 99 ≤ 10 * (i : Int) + 10 then 99 else 10 * (i : Int) + 10)) : zsu (zrus f i) c v = zrus f (i + 1) := by
  subst h hv
  funext j
  unfold zsu zrus
  by_cases e : j = 200 + i
  · subst e
    rw [if_pos rfl, if_pos (show 200 ≤ 200 + (i : Int) ∧ 200 + (i : Int) < 200 + ((i + 1 : Nat) : Int) by omega), show 200 + (i : Int) - 200 = i by omega]
  · rw [if_neg e]
    by_cases e2 : 200 ≤ j ∧ j < 200 + i
    · rw [if_pos e2, if_pos (show 200 ≤ j ∧ j < 200 + ((i + 1 : Nat) : Int) by omega)]
    · rw [if_neg e2, if_neg (show ¬ (200 ≤ j ∧ j < 200 + ((i + 1 : Nat) : Int)) by omega)]
theorem zrus_zero {f : Int → Int} : zrus f 0 = f := by
  funext j
  unfold zrus
  rw [if_neg (by omega)]
section
variable {X : zX} {l : Launch} {d : Nat}
def zp_M (a : Nat) (f2 : Int → Int) : zCs := [(11, 0, zsu (zsu (zsu (zsu (zsu (zsu (zsu (zsu (zsu (zsu (zsu (zsu (zsu (zsu (zsu (zsu (zsu (zsu (zsu (zsu (zsu (zsu (zsu (zsu (zsu (zsu (zsu (zsu (zsu (zsu (zdf 11 0) 2 ((a + 1 : Nat) : Int)) 3 ((a + 2 : Nat) : Int)) 4 ((a + 3 : Nat) : Int)) 5 ((a + 4 : Nat) : Int)) 6 ((a + 5 : Nat) : Int)) 12 (-1)) 15 ((a + 6 : Nat) : Int)) 17 ((a + 7 : Nat) : Int)) 18 ((a + 8 : Nat) : Int)) 20 ((a + 9 : Nat) : Int)) 21 ((a + 10 : Nat) : Int)) 25 ((a + 11 : Nat) : Int)) 26 ((a + 12 : Nat) : Int)) 33 (-1)) 35 ((a + 13 : Nat) : Int)) 36 ((a + 14 : Nat) : Int)) 37 ((a + 15 : Nat) : Int)) 38 ((a + 16 : Nat) : Int)) 39 ((a + 17 : Nat) : Int)) 40 ((a + 18 : Nat) : Int)) 41 ((a + 19 : Nat) : Int)) 42 ((a + 20 : Nat) : Int)) 43 ((a + 21 : Nat) : Int)) 45 (-1)) 46 ((a + 22 : Nat) : Int)) 47 ((a + 23 : Nat) : Int)) 48 ((a + 24 : Nat) : Int)) 49 ((a + 25 : Nat) : Int)) 50 ((a + 26 : Nat) : Int)) 51 ((a + 27 : Nat) : Int)), (12, 7, zdf 12 7), (12, 4080, f2), (12, 8160, zdf 12 8160), (14, 2, zdf 14 2), (12, 400, zdf 12 400), (12, 96, zdf 12 96), (12, 400, zdf 12 400), (12, 400, zdf 12 400), (12, 400, zdf 12 400), (12, 400, zdf 12 400), (13, 13, zdf 13 13), (13, 400, zdf 13 400), (13, 16, zdf 13 16), (13, 16, zdf 13 16), (13, 16, zdf 13 16), (13, 3888, zdf 13 3888), (13, 3888, zdf 13 3888), (12, 5, zdf 12 5), (13, 16, zdf 13 16), (12, 480, zdf 12 480), (13, 16, zdf 13 16), (12, 5, zdf 12 5), (12, 5, zdf 12 5), (13, 180, zdf 13 180), (13, 180, zdf 13 180), (13, 360, zdf 13 360), (13, 180, zdf 13 180)]
def zr_M0 : Int → Int := zsu (zsu (zdf 12 4080) 1 (-1)) 2 6
def zr_M1 : Int → Int := zrun zr_M0 100 31 60
def zr_M2 : Int → Int := zrun zr_M1 160 (-1) 30
def zr_M3 : Int → Int := zrus zr_M2 12
def zr_M : Int → Int := zrun zr_M3 212 1 4
def zc_M (a : Nat) : zCs := zp_M a zr_M
theorem k_M_lp4 {μ0 : zM} {a : Nat} {Q : zM → Prop} (hd : 3 ≤ d) (hQ : ∀ ν, zDe μ0 ν a 28 (zc_M a) → Q ν) : ∀ k i : Nat, i + k = 4 → ∀ μ, zDe μ0 μ a 28 (zp_M a (zrun zr_M3 212 1 i)) → zE X false l d 0 0 y_M_init 361 [some (13, 0, (a : Int)), some (0, 0, (i : Int))] [] μ (zrn Q) := by
  intro k
  induction k with
  | zero =>
    intro i hi μ D
    obtain rfl : i = 4 := by omega
    exact s_M_init_361 ⟨fun _ => hQ μ D, fun z => absurd (by decide) z⟩
  | succ k ih =>
    intro i hi μ D
    refine s_M_init_361 ⟨fun z => absurd z (by omega), fun _ => s_M_init_366 ?_⟩
    have e3 : μ (a : Int) 3 = ((a + 2 : Nat) : Int) := (D.ge (r := 0) (a : Int) 3 rfl rfl).trans rfl
    rw [e3, zw_of (show -2147483648 ≤ 212 + (i : Int) by omega) (by omega), zw_of (show -2147483648 ≤ (i : Int) + 1 by omega) (by omega)]
    refine ⟨by omega, by omega, ih (i + 1) (by omega) _ ((D.pu (r := 2) ((a + 2 : Nat) : Int) (212 + (i : Int)) _ rfl rfl).to ?_ rfl)⟩
    rw [← zrun_succ rfl]
    rfl
theorem k_M_lp3 {μ0 : zM} {a : Nat} {Q : zM → Prop} (hd : 3 ≤ d) (hQ : ∀ ν, zDe μ0 ν a 28 (zc_M a) → Q ν) : ∀ k i : Nat, i + k = 12 → ∀ μ, zDe μ0 μ a 28 (zp_M a (zrus zr_M2 i)) → zE X false l d 0 0 y_M_init 313 [some (13, 0, (a : Int)), some (0, 0, (i : Int))] [] μ (zrn Q) := by
  intro k
  induction k with
  | zero =>
    intro i hi μ D
    obtain rfl : i = 12 := by omega
    exact s_M_init_313 ⟨fun _ => s_M_init_359 (k_M_lp4 hd hQ 4 0 (by omega) μ (D.to (by show _ = zp_M a (zrun zr_M3 212 1 0); rw [zrun_zero]; rfl) rfl)), fun z => absurd (by decide) z⟩
  | succ k ih =>
    intro i hi μ D
    refine s_M_init_313 ⟨fun z => absurd z (by omega), fun _ => s_M_init_319 ?_⟩
    have e3 : μ (a : Int) 3 = ((a + 2 : Nat) : Int) := (D.ge (r := 0) (a : Int) 3 rfl rfl).trans rfl
    rw [e3, zw_of (show -2147483648 ≤ 200 + (i : Int) by omega) (by omega), zw_of (show -2147483648 ≤ (i : Int) + 1 by omega) (by omega)]
    rw [zw_of (show -2147483648 ≤ 10 * (i : Int) by omega) (by omega), zw_of (show -2147483648 ≤ 10 * (i : Int) + 10 by omega) (by omega)]
    refine ⟨by omega, by omega, ih (i + 1) (by omega) _ ((D.pu (r := 2) ((a + 2 : Nat) : Int) (200 + (i : Int)) _ rfl rfl).to ?_ rfl)⟩
    rw [← zrus_succ rfl rfl]
    rfl
theorem k_M_lp2 {μ0 : zM} {a : Nat} {Q : zM → Prop} (hd : 3 ≤ d) (hQ : ∀ ν, zDe μ0 ν a 28 (zc_M a) → Q ν) : ∀ k i : Nat, i + k = 30 → ∀ μ, zDe μ0 μ a 28 (zp_M a (zrun zr_M1 160 (-1) i)) → zE X false l d 0 0 y_M_init 288 [some (13, 0, (a : Int)), some (0, 0, (i : Int))] [] μ (zrn Q) := by
  intro k
  induction k with
  | zero =>
    intro i hi μ D
    obtain rfl : i = 30 := by omega
    exact s_M_init_288 ⟨fun _ => s_M_init_311 (k_M_lp3 hd hQ 12 0 (by omega) μ (D.to (by show _ = zp_M a (zrus zr_M2 0); rw [zrus_zero]; rfl) rfl)), fun z => absurd (by decide) z⟩
  | succ k ih =>
    intro i hi μ D
    refine s_M_init_288 ⟨fun z => absurd z (by omega), fun _ => s_M_init_294 ?_⟩
    have e3 : μ (a : Int) 3 = ((a + 2 : Nat) : Int) := (D.ge (r := 0) (a : Int) 3 rfl rfl).trans rfl
    rw [e3, zw_of (show -2147483648 ≤ 160 + (i : Int) by omega) (by omega), zw_of (show -2147483648 ≤ (i : Int) + 1 by omega) (by omega)]
    refine ⟨by omega, by omega, ih (i + 1) (by omega) _ ((D.pu (r := 2) ((a + 2 : Nat) : Int) (160 + (i : Int)) _ rfl rfl).to ?_ rfl)⟩
    rw [← zrun_succ rfl]
    rfl
theorem k_M_lp1 {μ0 : zM} {a : Nat} {Q : zM → Prop} (hd : 3 ≤ d) (hQ : ∀ ν, zDe μ0 ν a 28 (zc_M a) → Q ν) : ∀ k i : Nat, i + k = 60 → ∀ μ, zDe μ0 μ a 28 (zp_M a (zrun zr_M0 100 31 i)) → zE X false l d 0 0 y_M_init 263 [some (13, 0, (a : Int)), some (0, 0, (i : Int))] [] μ (zrn Q) := by
  intro k
  induction k with
  | zero =>
    intro i hi μ D
    obtain rfl : i = 60 := by omega
    exact s_M_init_263 ⟨fun _ => s_M_init_286 (k_M_lp2 hd hQ 30 0 (by omega) μ (D.to (by show _ = zp_M a (zrun zr_M1 160 (-1) 0); rw [zrun_zero]; rfl) rfl)), fun z => absurd (by decide) z⟩
  | succ k ih =>
    intro i hi μ D
    refine s_M_init_263 ⟨fun z => absurd z (by omega), fun _ => s_M_init_269 ?_⟩
    have e3 : μ (a : Int) 3 = ((a + 2 : Nat) : Int) := (D.ge (r := 0) (a : Int) 3 rfl rfl).trans rfl
    rw [e3, zw_of (show -2147483648 ≤ 100 + (i : Int) by omega) (by omega), zw_of (show -2147483648 ≤ (i : Int) + 1 by omega) (by omega)]
    refine ⟨by omega, by omega, ih (i + 1) (by omega) _ ((D.pu (r := 2) ((a + 2 : Nat) : Int) (100 + (i : Int)) _ rfl rfl).to ?_ rfl)⟩
    rw [← zrun_succ rfl]
    rfl
theorem k_M_init {μ0 μ : zM} {a : Nat} {Q : zM → Prop} (D0 : zDe μ0 μ a 1 [(11, 0, zdf 11 0)]) (hd : 3 ≤ d) (hQ : ∀ ν, zDe μ0 ν a 28 (zc_M a) → Q ν) : zCv X false l d 27 24009 y_M_init [(13, 0, (a : Int))] μ Q := by
  refine zC'_of (by decide +kernel) (Nat.le_of_ble_eq_true rfl) rfl ?_
  refine s_M_init_0 (by omega) ?_
  refine s_M_init_4 ⟨by omega, ?_⟩
  rw [D0.1]
  have D1 := ((D0.new (t := 12) (L := 7)).pu (r := 0) (a : Int) 2 ((a + 1 : Nat) : Int) rfl rfl).to (n' := 2) (ds := [(11, 0, zsu (zdf 11 0) 2 ((a + 1 : Nat) : Int)), (12, 7, zdf 12 7)]) rfl rfl
  generalize zup (zal μ 12 7) (a : Int) 2 ((a + 1 : Nat) : Int) = μ1 at D1 ⊢
  refine s_M_init_12 ⟨by omega, ?_⟩
  rw [D1.1]
  have D2 := ((D1.new (t := 12) (L := 4080)).pu (r := 0) (a : Int) 3 ((a + 2 : Nat) : Int) rfl rfl).to (n' := 3) (ds := [(11, 0, zsu (zsu (zdf 11 0) 2 ((a + 1 : Nat) : Int)) 3 ((a + 2 : Nat) : Int)), (12, 7, zdf 12 7), (12, 4080, zdf 12 4080)]) rfl rfl
  generalize zup (zal μ1 12 4080) (a : Int) 3 ((a + 2 : Nat) : Int) = μ2 at D2 ⊢
  refine s_M_init_21 ⟨by omega, ?_⟩
  rw [D2.1]
  have D3 := ((D2.new (t := 12) (L := 8160)).pu (r := 0) (a : Int) 4 ((a + 3 : Nat) : Int) rfl rfl).to (n' := 4) (ds := [(11, 0, zsu (zsu (zsu (zdf 11 0) 2 ((a + 1 : Nat) : Int)) 3 ((a + 2 : Nat) : Int)) 4 ((a + 3 : Nat) : Int)), (12, 7, zdf 12 7), (12, 4080, zdf 12 4080), (12, 8160, zdf 12 8160)]) rfl rfl
  generalize zup (zal μ2 12 8160) (a : Int) 4 ((a + 3 : Nat) : Int) = μ3 at D3 ⊢
  refine s_M_init_30 ⟨by omega, ?_⟩
  rw [D3.1]
  have D4 := ((D3.new (t := 14) (L := 2)).pu (r := 0) (a : Int) 5 ((a + 4 : Nat) : Int) rfl rfl).to (n' := 5) (ds := [(11, 0, zsu (zsu (zsu (zsu (zdf 11 0) 2 ((a + 1 : Nat) : Int)) 3 ((a + 2 : Nat) : Int)) 4 ((a + 3 : Nat) : Int)) 5 ((a + 4 : Nat) : Int)), (12, 7, zdf 12 7), (12, 4080, zdf 12 4080), (12, 8160, zdf 12 8160), (14, 2, zdf 14 2)]) rfl rfl
  generalize zup (zal μ3 14 2) (a : Int) 5 ((a + 4 : Nat) : Int) = μ4 at D4 ⊢
  refine s_M_init_37 ⟨by omega, ?_⟩
  rw [D4.1]
  have D5 := ((D4.new (t := 12) (L := 400)).pu (r := 0) (a : Int) 6 ((a + 5 : Nat) : Int) rfl rfl).to (n' := 6) (ds := [(11, 0, zsu (zsu (zsu (zsu (zsu (zdf 11 0) 2 ((a + 1 : Nat) : Int)) 3 ((a + 2 : Nat) : Int)) 4 ((a + 3 : Nat) : Int)) 5 ((a + 4 : Nat) : Int)) 6 ((a + 5 : Nat) : Int)), (12, 7, zdf 12 7), (12, 4080, zdf 12 4080), (12, 8160, zdf 12 8160), (14, 2, zdf 14 2), (12, 400, zdf 12 400)]) rfl rfl
  generalize zup (zal μ4 12 400) (a : Int) 6 ((a + 5 : Nat) : Int) = μ5 at D5 ⊢
  refine s_M_init_46 ?_
  have D6 := (D5.pu (r := 0) (a : Int) 12 (-1) rfl rfl).to (n' := 6) (ds := [(11, 0, zsu (zsu (zsu (zsu (zsu (zsu (zdf 11 0) 2 ((a + 1 : Nat) : Int)) 3 ((a + 2 : Nat) : Int)) 4 ((a + 3 : Nat) : Int)) 5 ((a + 4 : Nat) : Int)) 6 ((a + 5 : Nat) : Int)) 12 (-1)), (12, 7, zdf 12 7), (12, 4080, zdf 12 4080), (12, 8160, zdf 12 8160), (14, 2, zdf 14 2), (12, 400, zdf 12 400)]) rfl rfl
  generalize zup (μ5) (a : Int) 12 (-1) = μ6 at D6 ⊢
  refine s_M_init_51 ⟨by omega, ?_⟩
  rw [D6.1]
  have D7 := ((D6.new (t := 12) (L := 96)).pu (r := 0) (a : Int) 15 ((a + 6 : Nat) : Int) rfl rfl).to (n' := 7) (ds := [(11, 0, zsu (zsu (zsu (zsu (zsu (zsu (zsu (zdf 11 0) 2 ((a + 1 : Nat) : Int)) 3 ((a + 2 : Nat) : Int)) 4 ((a + 3 : Nat) : Int)) 5 ((a + 4 : Nat) : Int)) 6 ((a + 5 : Nat) : Int)) 12 (-1)) 15 ((a + 6 : Nat) : Int)), (12, 7, zdf 12 7), (12, 4080, zdf 12 4080), (12, 8160, zdf 12 8160), (14, 2, zdf 14 2), (12, 400, zdf 12 400), (12, 96, zdf 12 96)]) rfl rfl
  generalize zup (zal μ6 12 96) (a : Int) 15 ((a + 6 : Nat) : Int) = μ7 at D7 ⊢
  refine s_M_init_59 ⟨by omega, ?_⟩
  rw [D7.1]
  have D8 := ((D7.new (t := 12) (L := 400)).pu (r := 0) (a : Int) 17 ((a + 7 : Nat) : Int) rfl rfl).to (n' := 8) (ds := [(11, 0, zsu (zsu (zsu (zsu (zsu (zsu (zsu (zsu (zdf 11 0) 2 ((a + 1 : Nat) : Int)) 3 ((a + 2 : Nat) : Int)) 4 ((a + 3 : Nat) : Int)) 5 ((a + 4 : Nat) : Int)) 6 ((a + 5 : Nat) : Int)) 12 (-1)) 15 ((a + 6 : Nat) : Int)) 17 ((a + 7 : Nat) : Int)), (12, 7, zdf 12 7), (12, 4080, zdf 12 4080), (12, 8160, zdf 12 8160), (14, 2, zdf 14 2), (12, 400, zdf 12 400), (12, 96, zdf 12 96), (12, 400, zdf 12 400)]) rfl rfl
  generalize zup (zal μ7 12 400) (a : Int) 17 ((a + 7 : Nat) : Int) = μ8 at D8 ⊢
  refine s_M_init_68 ⟨by omega, ?_⟩
  rw [D8.1]
  have D9 := ((D8.new (t := 12) (L := 400)).pu (r := 0) (a : Int) 18 ((a + 8 : Nat) : Int) rfl rfl).to (n' := 9) (ds := [(11, 0, zsu (zsu (zsu (zsu (zsu (zsu (zsu (zsu (zsu (zdf 11 0) 2 ((a + 1 : Nat) : Int)) 3 ((a + 2 : Nat) : Int)) 4 ((a + 3 : Nat) : Int)) 5 ((a + 4 : Nat) : Int)) 6 ((a + 5 : Nat) : Int)) 12 (-1)) 15 ((a + 6 : Nat) : Int)) 17 ((a + 7 : Nat) : Int)) 18 ((a + 8 : Nat) : Int)), (12, 7, zdf 12 7), (12, 4080, zdf 12 4080), (12, 8160, zdf 12 8160), (14, 2, zdf 14 2), (12, 400, zdf 12 400), (12, 96, zdf 12 96), (12, 400, zdf 12 400), (12, 400, zdf 12 400)]) rfl rfl
  generalize zup (zal μ8 12 400) (a : Int) 18 ((a + 8 : Nat) : Int) = μ9 at D9 ⊢
  refine s_M_init_77 ⟨by omega, ?_⟩
  rw [D9.1]
  have D10 := ((D9.new (t := 12) (L := 400)).pu (r := 0) (a : Int) 20 ((a + 9 : Nat) : Int) rfl rfl).to (n' := 10) (ds := [(11, 0, zsu (zsu (zsu (zsu (zsu (zsu (zsu (zsu (zsu (zsu (zdf 11 0) 2 ((a + 1 : Nat) : Int)) 3 ((a + 2 : Nat) : Int)) 4 ((a + 3 : Nat) : Int)) 5 ((a + 4 : Nat) : Int)) 6 ((a + 5 : Nat) : Int)) 12 (-1)) 15 ((a + 6 : Nat) : Int)) 17 ((a + 7 : Nat) : Int)) 18 ((a + 8 : Nat) : Int)) 20 ((a + 9 : Nat) : Int)), (12, 7, zdf 12 7), (12, 4080, zdf 12 4080), (12, 8160, zdf 12 8160), (14, 2, zdf 14 2), (12, 400, zdf 12 400), (12, 96, zdf 12 96), (12, 400, zdf 12 400), (12, 400, zdf 12 400), (12, 400, zdf 12 400)]) rfl rfl
  generalize zup (zal μ9 12 400) (a : Int) 20 ((a + 9 : Nat) : Int) = μ10 at D10 ⊢
  refine s_M_init_86 ⟨by omega, ?_⟩
  rw [D10.1]
  have D11 := ((D10.new (t := 12) (L := 400)).pu (r := 0) (a : Int) 21 ((a + 10 : Nat) : Int) rfl rfl).to (n' := 11) (ds := [(11, 0, zsu (zsu (zsu (zsu (zsu (zsu (zsu (zsu (zsu (zsu (zsu (zdf 11 0) 2 ((a + 1 : Nat) : Int)) 3 ((a + 2 : Nat) : Int)) 4 ((a + 3 : Nat) : Int)) 5 ((a + 4 : Nat) : Int)) 6 ((a + 5 : Nat) : Int)) 12 (-1)) 15 ((a + 6 : Nat) : Int)) 17 ((a + 7 : Nat) : Int)) 18 ((a + 8 : Nat) : Int)) 20 ((a + 9 : Nat) : Int)) 21 ((a + 10 : Nat) : Int)), (12, 7, zdf 12 7), (12, 4080, zdf 12 4080), (12, 8160, zdf 12 8160), (14, 2, zdf 14 2), (12, 400, zdf 12 400), (12, 96, zdf 12 96), (12, 400, zdf 12 400), (12, 400, zdf 12 400), (12, 400, zdf 12 400), (12, 400, zdf 12 400)]) rfl rfl
  generalize zup (zal μ10 12 400) (a : Int) 21 ((a + 10 : Nat) : Int) = μ11 at D11 ⊢
  refine s_M_init_95 ⟨by omega, ?_⟩
  rw [D11.1]
  have D12 := ((D11.new (t := 13) (L := 13)).pu (r := 0) (a : Int) 25 ((a + 11 : Nat) : Int) rfl rfl).to (n' := 12) (ds := [(11, 0, zsu (zsu (zsu (zsu (zsu (zsu (zsu (zsu (zsu (zsu (zsu (zsu (zdf 11 0) 2 ((a + 1 : Nat) : Int)) 3 ((a + 2 : Nat) : Int)) 4 ((a + 3 : Nat) : Int)) 5 ((a + 4 : Nat) : Int)) 6 ((a + 5 : Nat) : Int)) 12 (-1)) 15 ((a + 6 : Nat) : Int)) 17 ((a + 7 : Nat) : Int)) 18 ((a + 8 : Nat) : Int)) 20 ((a + 9 : Nat) : Int)) 21 ((a + 10 : Nat) : Int)) 25 ((a + 11 : Nat) : Int)), (12, 7, zdf 12 7), (12, 4080, zdf 12 4080), (12, 8160, zdf 12 8160), (14, 2, zdf 14 2), (12, 400, zdf 12 400), (12, 96, zdf 12 96), (12, 400, zdf 12 400), (12, 400, zdf 12 400), (12, 400, zdf 12 400), (12, 400, zdf 12 400), (13, 13, zdf 13 13)]) rfl rfl
  generalize zup (zal μ11 13 13) (a : Int) 25 ((a + 11 : Nat) : Int) = μ12 at D12 ⊢
  refine s_M_init_103 ⟨by omega, ?_⟩
  rw [D12.1]
  have D13 := ((D12.new (t := 13) (L := 400)).pu (r := 0) (a : Int) 26 ((a + 12 : Nat) : Int) rfl rfl).to (n' := 13) (ds := [(11, 0, zsu (zsu (zsu (zsu (zsu (zsu (zsu (zsu (zsu (zsu (zsu (zsu (zsu (zdf 11 0) 2 ((a + 1 : Nat) : Int)) 3 ((a + 2 : Nat) : Int)) 4 ((a + 3 : Nat) : Int)) 5 ((a + 4 : Nat) : Int)) 6 ((a + 5 : Nat) : Int)) 12 (-1)) 15 ((a + 6 : Nat) : Int)) 17 ((a + 7 : Nat) : Int)) 18 ((a + 8 : Nat) : Int)) 20 ((a + 9 : Nat) : Int)) 21 ((a + 10 : Nat) : Int)) 25 ((a + 11 : Nat) : Int)) 26 ((a + 12 : Nat) : Int)), (12, 7, zdf 12 7), (12, 4080, zdf 12 4080), (12, 8160, zdf 12 8160), (14, 2, zdf 14 2), (12, 400, zdf 12 400), (12, 96, zdf 12 96), (12, 400, zdf 12 400), (12, 400, zdf 12 400), (12, 400, zdf 12 400), (12, 400, zdf 12 400), (13, 13, zdf 13 13), (13, 400, zdf 13 400)]) rfl rfl
  generalize zup (zal μ12 13 400) (a : Int) 26 ((a + 12 : Nat) : Int) = μ13 at D13 ⊢
  refine s_M_init_112 ?_
  have D14 := (D13.pu (r := 0) (a : Int) 33 (-1) rfl rfl).to (n' := 13) (ds := [(11, 0, zsu (zsu (zsu (zsu (zsu (zsu (zsu (zsu (zsu (zsu (zsu (zsu (zsu (zsu (zdf 11 0) 2 ((a + 1 : Nat) : Int)) 3 ((a + 2 : Nat) : Int)) 4 ((a + 3 : Nat) : Int)) 5 ((a + 4 : Nat) : Int)) 6 ((a + 5 : Nat) : Int)) 12 (-1)) 15 ((a + 6 : Nat) : Int)) 17 ((a + 7 : Nat) : Int)) 18 ((a + 8 : Nat) : Int)) 20 ((a + 9 : Nat) : Int)) 21 ((a + 10 : Nat) : Int)) 25 ((a + 11 : Nat) : Int)) 26 ((a + 12 : Nat) : Int)) 33 (-1)), (12, 7, zdf 12 7), (12, 4080, zdf 12 4080), (12, 8160, zdf 12 8160), (14, 2, zdf 14 2), (12, 400, zdf 12 400), (12, 96, zdf 12 96), (12, 400, zdf 12 400), (12, 400, zdf 12 400), (12, 400, zdf 12 400), (12, 400, zdf 12 400), (13, 13, zdf 13 13), (13, 400, zdf 13 400)]) rfl rfl
  generalize zup (μ13) (a : Int) 33 (-1) = μ14 at D14 ⊢
  refine s_M_init_117 ⟨by omega, ?_⟩
  rw [D14.1]
  have D15 := ((D14.new (t := 13) (L := 16)).pu (r := 0) (a : Int) 35 ((a + 13 : Nat) : Int) rfl rfl).to (n' := 14) (ds := [(11, 0, zsu (zsu (zsu (zsu (zsu (zsu (zsu (zsu (zsu (zsu (zsu (zsu (zsu (zsu (zsu (zdf 11 0) 2 ((a + 1 : Nat) : Int)) 3 ((a + 2 : Nat) : Int)) 4 ((a + 3 : Nat) : Int)) 5 ((a + 4 : Nat) : Int)) 6 ((a + 5 : Nat) : Int)) 12 (-1)) 15 ((a + 6 : Nat) : Int)) 17 ((a + 7 : Nat) : Int)) 18 ((a + 8 : Nat) : Int)) 20 ((a + 9 : Nat) : Int)) 21 ((a + 10 : Nat) : Int)) 25 ((a + 11 : Nat) : Int)) 26 ((a + 12 : Nat) : Int)) 33 (-1)) 35 ((a + 13 : Nat) : Int)), (12, 7, zdf 12 7), (12, 4080, zdf 12 4080), (12, 8160, zdf 12 8160), (14, 2, zdf 14 2), (12, 400, zdf 12 400), (12, 96, zdf 12 96), (12, 400, zdf 12 400), (12, 400, zdf 12 400), (12, 400, zdf 12 400), (12, 400, zdf 12 400), (13, 13, zdf 13 13), (13, 400, zdf 13 400), (13, 16, zdf 13 16)]) rfl rfl
  generalize zup (zal μ14 13 16) (a : Int) 35 ((a + 13 : Nat) : Int) = μ15 at D15 ⊢
  refine s_M_init_125 ⟨by omega, ?_⟩
  rw [D15.1]
  have D16 := ((D15.new (t := 13) (L := 16)).pu (r := 0) (a : Int) 36 ((a + 14 : Nat) : Int) rfl rfl).to (n' := 15) (ds := [(11, 0, zsu (zsu (zsu (zsu (zsu (zsu (zsu (zsu (zsu (zsu (zsu (zsu (zsu (zsu (zsu (zsu (zdf 11 0) 2 ((a + 1 : Nat) : Int)) 3 ((a + 2 : Nat) : Int)) 4 ((a + 3 : Nat) : Int)) 5 ((a + 4 : Nat) : Int)) 6 ((a + 5 : Nat) : Int)) 12 (-1)) 15 ((a + 6 : Nat) : Int)) 17 ((a + 7 : Nat) : Int)) 18 ((a + 8 : Nat) : Int)) 20 ((a + 9 : Nat) : Int)) 21 ((a + 10 : Nat) : Int)) 25 ((a + 11 : Nat) : Int)) 26 ((a + 12 : Nat) : Int)) 33 (-1)) 35 ((a + 13 : Nat) : Int)) 36 ((a + 14 : Nat) : Int)), (12, 7, zdf 12 7), (12, 4080, zdf 12 4080), (12, 8160, zdf 12 8160), (14, 2, zdf 14 2), (12, 400, zdf 12 400), (12, 96, zdf 12 96), (12, 400, zdf 12 400), (12, 400, zdf 12 400), (12, 400, zdf 12 400), (12, 400, zdf 12 400), (13, 13, zdf 13 13), (13, 400, zdf 13 400), (13, 16, zdf 13 16), (13, 16, zdf 13 16)]) rfl rfl
  generalize zup (zal μ15 13 16) (a : Int) 36 ((a + 14 : Nat) : Int) = μ16 at D16 ⊢
  refine s_M_init_133 ⟨by omega, ?_⟩
  rw [D16.1]
  have D17 := ((D16.new (t := 13) (L := 16)).pu (r := 0) (a : Int) 37 ((a + 15 : Nat) : Int) rfl rfl).to (n' := 16) (ds := [(11, 0, zsu (zsu (zsu (zsu (zsu (zsu (zsu (zsu (zsu (zsu (zsu (zsu (zsu (zsu (zsu (zsu (zsu (zdf 11 0) 2 ((a + 1 : Nat) : Int)) 3 ((a + 2 : Nat) : Int)) 4 ((a + 3 : Nat) : Int)) 5 ((a + 4 : Nat) : Int)) 6 ((a + 5 : Nat) : Int)) 12 (-1)) 15 ((a + 6 : Nat) : Int)) 17 ((a + 7 : Nat) : Int)) 18 ((a + 8 : Nat) : Int)) 20 ((a + 9 : Nat) : Int)) 21 ((a + 10 : Nat) : Int)) 25 ((a + 11 : Nat) : Int)) 26 ((a + 12 : Nat) : Int)) 33 (-1)) 35 ((a + 13 : Nat) : Int)) 36 ((a + 14 : Nat) : Int)) 37 ((a + 15 : Nat) : Int)), (12, 7, zdf 12 7), (12, 4080, zdf 12 4080), (12, 8160, zdf 12 8160), (14, 2, zdf 14 2), (12, 400, zdf 12 400), (12, 96, zdf 12 96), (12, 400, zdf 12 400), (12, 400, zdf 12 400), (12, 400, zdf 12 400), (12, 400, zdf 12 400), (13, 13, zdf 13 13), (13, 400, zdf 13 400), (13, 16, zdf 13 16), (13, 16, zdf 13 16), (13, 16, zdf 13 16)]) rfl rfl
  generalize zup (zal μ16 13 16) (a : Int) 37 ((a + 15 : Nat) : Int) = μ17 at D17 ⊢
  refine s_M_init_141 ⟨by omega, ?_⟩
  rw [D17.1]
  have D18 := ((D17.new (t := 13) (L := 3888)).pu (r := 0) (a : Int) 38 ((a + 16 : Nat) : Int) rfl rfl).to (n' := 17) (ds := [(11, 0, zsu (zsu (zsu (zsu (zsu (zsu (zsu (zsu (zsu (zsu (zsu (zsu (zsu (zsu (zsu (zsu (zsu (zsu (zdf 11 0) 2 ((a + 1 : Nat) : Int)) 3 ((a + 2 : Nat) : Int)) 4 ((a + 3 : Nat) : Int)) 5 ((a + 4 : Nat) : Int)) 6 ((a + 5 : Nat) : Int)) 12 (-1)) 15 ((a + 6 : Nat) : Int)) 17 ((a + 7 : Nat) : Int)) 18 ((a + 8 : Nat) : Int)) 20 ((a + 9 : Nat) : Int)) 21 ((a + 10 : Nat) : Int)) 25 ((a + 11 : Nat) : Int)) 26 ((a + 12 : Nat) : Int)) 33 (-1)) 35 ((a + 13 : Nat) : Int)) 36 ((a + 14 : Nat) : Int)) 37 ((a + 15 : Nat) : Int)) 38 ((a + 16 : Nat) : Int)), (12, 7, zdf 12 7), (12, 4080, zdf 12 4080), (12, 8160, zdf 12 8160), (14, 2, zdf 14 2), (12, 400, zdf 12 400), (12, 96, zdf 12 96), (12, 400, zdf 12 400), (12, 400, zdf 12 400), (12, 400, zdf 12 400), (12, 400, zdf 12 400), (13, 13, zdf 13 13), (13, 400, zdf 13 400), (13, 16, zdf 13 16), (13, 16, zdf 13 16), (13, 16, zdf 13 16), (13, 3888, zdf 13 3888)]) rfl rfl
  generalize zup (zal μ17 13 3888) (a : Int) 38 ((a + 16 : Nat) : Int) = μ18 at D18 ⊢
  refine s_M_init_150 ⟨by omega, ?_⟩
  rw [D18.1]
  have D19 := ((D18.new (t := 13) (L := 3888)).pu (r := 0) (a : Int) 39 ((a + 17 : Nat) : Int) rfl rfl).to (n' := 18) (ds := [(11, 0, zsu (zsu (zsu (zsu (zsu (zsu (zsu (zsu (zsu (zsu (zsu (zsu (zsu (zsu (zsu (zsu (zsu (zsu (zsu (zdf 11 0) 2 ((a + 1 : Nat) : Int)) 3 ((a + 2 : Nat) : Int)) 4 ((a + 3 : Nat) : Int)) 5 ((a + 4 : Nat) : Int)) 6 ((a + 5 : Nat) : Int)) 12 (-1)) 15 ((a + 6 : Nat) : Int)) 17 ((a + 7 : Nat) : Int)) 18 ((a + 8 : Nat) : Int)) 20 ((a + 9 : Nat) : Int)) 21 ((a + 10 : Nat) : Int)) 25 ((a + 11 : Nat) : Int)) 26 ((a + 12 : Nat) : Int)) 33 (-1)) 35 ((a + 13 : Nat) : Int)) 36 ((a + 14 : Nat) : Int)) 37 ((a + 15 : Nat) : Int)) 38 ((a + 16 : Nat) : Int)) 39 ((a + 17 : Nat) : Int)), (12, 7, zdf 12 7), (12, 4080, zdf 12 4080), (12, 8160, zdf 12 8160), (14, 2, zdf 14 2), (12, 400, zdf 12 400), (12, 96, zdf 12 96), (12, 400, zdf 12 400), (12, 400, zdf 12 400), (12, 400, zdf 12 400), (12, 400, zdf 12 400), (13, 13, zdf 13 13), (13, 400, zdf 13 400), (13, 16, zdf 13 16), (13, 16, zdf 13 16), (13, 16, zdf 13 16), (13, 3888, zdf 13 3888), (13, 3888, zdf 13 3888)]) rfl rfl
  generalize zup (zal μ18 13 3888) (a : Int) 39 ((a + 17 : Nat) : Int) = μ19 at D19 ⊢
  refine s_M_init_159 ⟨by omega, ?_⟩
  rw [D19.1]
  have D20 := ((D19.new (t := 12) (L := 5)).pu (r := 0) (a : Int) 40 ((a + 18 : Nat) : Int) rfl rfl).to (n' := 19) (ds := [(11, 0, zsu (zsu (zsu (zsu (zsu (zsu (zsu (zsu (zsu (zsu (zsu (zsu (zsu (zsu (zsu (zsu (zsu (zsu (zsu (zsu (zdf 11 0) 2 ((a + 1 : Nat) : Int)) 3 ((a + 2 : Nat) : Int)) 4 ((a + 3 : Nat) : Int)) 5 ((a + 4 : Nat) : Int)) 6 ((a + 5 : Nat) : Int)) 12 (-1)) 15 ((a + 6 : Nat) : Int)) 17 ((a + 7 : Nat) : Int)) 18 ((a + 8 : Nat) : Int)) 20 ((a + 9 : Nat) : Int)) 21 ((a + 10 : Nat) : Int)) 25 ((a + 11 : Nat) : Int)) 26 ((a + 12 : Nat) : Int)) 33 (-1)) 35 ((a + 13 : Nat) : Int)) 36 ((a + 14 : Nat) : Int)) 37 ((a + 15 : Nat) : Int)) 38 ((a + 16 : Nat) : Int)) 39 ((a + 17 : Nat) : Int)) 40 ((a + 18 : Nat) : Int)), (12, 7, zdf 12 7), (12, 4080, zdf 12 4080), (12, 8160, zdf 12 8160), (14, 2, zdf 14 2), (12, 400, zdf 12 400), (12, 96, zdf 12 96), (12, 400, zdf 12 400), (12, 400, zdf 12 400), (12, 400, zdf 12 400), (12, 400, zdf 12 400), (13, 13, zdf 13 13), (13, 400, zdf 13 400), (13, 16, zdf 13 16), (13, 16, zdf 13 16), (13, 16, zdf 13 16), (13, 3888, zdf 13 3888), (13, 3888, zdf 13 3888), (12, 5, zdf 12 5)]) rfl rfl
  generalize zup (zal μ19 12 5) (a : Int) 40 ((a + 18 : Nat) : Int) = μ20 at D20 ⊢
  refine s_M_init_166 ⟨by omega, ?_⟩
  rw [D20.1]
  have D21 := ((D20.new (t := 13) (L := 16)).pu (r := 0) (a : Int) 41 ((a + 19 : Nat) : Int) rfl rfl).to (n' := 20) (ds := [(11, 0, zsu (zsu (zsu (zsu (zsu (zsu (zsu (zsu (zsu (zsu (zsu (zsu (zsu (zsu (zsu (zsu (zsu (zsu (zsu (zsu (zsu (zdf 11 0) 2 ((a + 1 : Nat) : Int)) 3 ((a + 2 : Nat) : Int)) 4 ((a + 3 : Nat) : Int)) 5 ((a + 4 : Nat) : Int)) 6 ((a + 5 : Nat) : Int)) 12 (-1)) 15 ((a + 6 : Nat) : Int)) 17 ((a + 7 : Nat) : Int)) 18 ((a + 8 : Nat) : Int)) 20 ((a + 9 : Nat) : Int)) 21 ((a + 10 : Nat) : Int)) 25 ((a + 11 : Nat) : Int)) 26 ((a + 12 : Nat) : Int)) 33 (-1)) 35 ((a + 13 : Nat) : Int)) 36 ((a + 14 : Nat) : Int)) 37 ((a + 15 : Nat) : Int)) 38 ((a + 16 : Nat) : Int)) 39 ((a + 17 : Nat) : Int)) 40 ((a + 18 : Nat) : Int)) 41 ((a + 19 : Nat) : Int)), (12, 7, zdf 12 7), (12, 4080, zdf 12 4080), (12, 8160, zdf 12 8160), (14, 2, zdf 14 2), (12, 400, zdf 12 400), (12, 96, zdf 12 96), (12, 400, zdf 12 400), (12, 400, zdf 12 400), (12, 400, zdf 12 400), (12, 400, zdf 12 400), (13, 13, zdf 13 13), (13, 400, zdf 13 400), (13, 16, zdf 13 16), (13, 16, zdf 13 16), (13, 16, zdf 13 16), (13, 3888, zdf 13 3888), (13, 3888, zdf 13 3888), (12, 5, zdf 12 5), (13, 16, zdf 13 16)]) rfl rfl
  generalize zup (zal μ20 13 16) (a : Int) 41 ((a + 19 : Nat) : Int) = μ21 at D21 ⊢
  refine s_M_init_174 ⟨by omega, ?_⟩
  rw [D21.1]
  have D22 := ((D21.new (t := 12) (L := 480)).pu (r := 0) (a : Int) 42 ((a + 20 : Nat) : Int) rfl rfl).to (n' := 21) (ds := [(11, 0, zsu (zsu (zsu (zsu (zsu (zsu (zsu (zsu (zsu (zsu (zsu (zsu (zsu (zsu (zsu (zsu (zsu (zsu (zsu (zsu (zsu (zsu (zdf 11 0) 2 ((a + 1 : Nat) : Int)) 3 ((a + 2 : Nat) : Int)) 4 ((a + 3 : Nat) : Int)) 5 ((a + 4 : Nat) : Int)) 6 ((a + 5 : Nat) : Int)) 12 (-1)) 15 ((a + 6 : Nat) : Int)) 17 ((a + 7 : Nat) : Int)) 18 ((a + 8 : Nat) : Int)) 20 ((a + 9 : Nat) : Int)) 21 ((a + 10 : Nat) : Int)) 25 ((a + 11 : Nat) : Int)) 26 ((a + 12 : Nat) : Int)) 33 (-1)) 35 ((a + 13 : Nat) : Int)) 36 ((a + 14 : Nat) : Int)) 37 ((a + 15 : Nat) : Int)) 38 ((a + 16 : Nat) : Int)) 39 ((a + 17 : Nat) : Int)) 40 ((a + 18 : Nat) : Int)) 41 ((a + 19 : Nat) : Int)) 42 ((a + 20 : Nat) : Int)), (12, 7, zdf 12 7), (12, 4080, zdf 12 4080), (12, 8160, zdf 12 8160), (14, 2, zdf 14 2), (12, 400, zdf 12 400), (12, 96, zdf 12 96), (12, 400, zdf 12 400), (12, 400, zdf 12 400), (12, 400, zdf 12 400), (12, 400, zdf 12 400), (13, 13, zdf 13 13), (13, 400, zdf 13 400), (13, 16, zdf 13 16), (13, 16, zdf 13 16), (13, 16, zdf 13 16), (13, 3888, zdf 13 3888), (13, 3888, zdf 13 3888), (12, 5, zdf 12 5), (13, 16, zdf 13 16), (12, 480, zdf 12 480)]) rfl rfl
  generalize zup (zal μ21 12 480) (a : Int) 42 ((a + 20 : Nat) : Int) = μ22 at D22 ⊢
  refine s_M_init_183 ⟨by omega, ?_⟩
  rw [D22.1]
  have D23 := ((D22.new (t := 13) (L := 16)).pu (r := 0) (a : Int) 43 ((a + 21 : Nat) : Int) rfl rfl).to (n' := 22) (ds := [(11, 0, zsu (zsu (zsu (zsu (zsu (zsu (zsu (zsu (zsu (zsu (zsu (zsu (zsu (zsu (zsu (zsu (zsu (zsu (zsu (zsu (zsu (zsu (zsu (zdf 11 0) 2 ((a + 1 : Nat) : Int)) 3 ((a + 2 : Nat) : Int)) 4 ((a + 3 : Nat) : Int)) 5 ((a + 4 : Nat) : Int)) 6 ((a + 5 : Nat) : Int)) 12 (-1)) 15 ((a + 6 : Nat) : Int)) 17 ((a + 7 : Nat) : Int)) 18 ((a + 8 : Nat) : Int)) 20 ((a + 9 : Nat) : Int)) 21 ((a + 10 : Nat) : Int)) 25 ((a + 11 : Nat) : Int)) 26 ((a + 12 : Nat) : Int)) 33 (-1)) 35 ((a + 13 : Nat) : Int)) 36 ((a + 14 : Nat) : Int)) 37 ((a + 15 : Nat) : Int)) 38 ((a + 16 : Nat) : Int)) 39 ((a + 17 : Nat) : Int)) 40 ((a + 18 : Nat) : Int)) 41 ((a + 19 : Nat) : Int)) 42 ((a + 20 : Nat) : Int)) 43 ((a + 21 : Nat) : Int)), (12, 7, zdf 12 7), (12, 4080, zdf 12 4080), (12, 8160, zdf 12 8160), (14, 2, zdf 14 2), (12, 400, zdf 12 400), (12, 96, zdf 12 96), (12, 400, zdf 12 400), (12, 400, zdf 12 400), (12, 400, zdf 12 400), (12, 400, zdf 12 400), (13, 13, zdf 13 13), (13, 400, zdf 13 400), (13, 16, zdf 13 16), (13, 16, zdf 13 16), (13, 16, zdf 13 16), (13, 3888, zdf 13 3888), (13, 3888, zdf 13 3888), (12, 5, zdf 12 5), (13, 16, zdf 13 16), (12, 480, zdf 12 480), (13, 16, zdf 13 16)]) rfl rfl
  generalize zup (zal μ22 13 16) (a : Int) 43 ((a + 21 : Nat) : Int) = μ23 at D23 ⊢
  refine s_M_init_191 ?_
  have D24 := (D23.pu (r := 0) (a : Int) 45 (-1) rfl rfl).to (n' := 22) (ds := [(11, 0, zsu (zsu (zsu (zsu (zsu (zsu (zsu (zsu (zsu (zsu (zsu (zsu (zsu (zsu (zsu (zsu (zsu (zsu (zsu (zsu (zsu (zsu (zsu (zsu (zdf 11 0) 2 ((a + 1 : Nat) : Int)) 3 ((a + 2 : Nat) : Int)) 4 ((a + 3 : Nat) : Int)) 5 ((a + 4 : Nat) : Int)) 6 ((a + 5 : Nat) : Int)) 12 (-1)) 15 ((a + 6 : Nat) : Int)) 17 ((a + 7 : Nat) : Int)) 18 ((a + 8 : Nat) : Int)) 20 ((a + 9 : Nat) : Int)) 21 ((a + 10 : Nat) : Int)) 25 ((a + 11 : Nat) : Int)) 26 ((a + 12 : Nat) : Int)) 33 (-1)) 35 ((a + 13 : Nat) : Int)) 36 ((a + 14 : Nat) : Int)) 37 ((a + 15 : Nat) : Int)) 38 ((a + 16 : Nat) : Int)) 39 ((a + 17 : Nat) : Int)) 40 ((a + 18 : Nat) : Int)) 41 ((a + 19 : Nat) : Int)) 42 ((a + 20 : Nat) : Int)) 43 ((a + 21 : Nat) : Int)) 45 (-1)), (12, 7, zdf 12 7), (12, 4080, zdf 12 4080), (12, 8160, zdf 12 8160), (14, 2, zdf 14 2), (12, 400, zdf 12 400), (12, 96, zdf 12 96), (12, 400, zdf 12 400), (12, 400, zdf 12 400), (12, 400, zdf 12 400), (12, 400, zdf 12 400), (13, 13, zdf 13 13), (13, 400, zdf 13 400), (13, 16, zdf 13 16), (13, 16, zdf 13 16), (13, 16, zdf 13 16), (13, 3888, zdf 13 3888), (13, 3888, zdf 13 3888), (12, 5, zdf 12 5), (13, 16, zdf 13 16), (12, 480, zdf 12 480), (13, 16, zdf 13 16)]) rfl rfl
  generalize zup (μ23) (a : Int) 45 (-1) = μ24 at D24 ⊢
  refine s_M_init_196 ⟨by omega, ?_⟩
  rw [D24.1]
  have D25 := ((D24.new (t := 12) (L := 5)).pu (r := 0) (a : Int) 46 ((a + 22 : Nat) : Int) rfl rfl).to (n' := 23) (ds := [(11, 0, zsu (zsu (zsu (zsu (zsu (zsu (zsu (zsu (zsu (zsu (zsu (zsu (zsu (zsu (zsu (zsu (zsu (zsu (zsu (zsu (zsu (zsu (zsu (zsu (zsu (zdf 11 0) 2 ((a + 1 : Nat) : Int)) 3 ((a + 2 : Nat) : Int)) 4 ((a + 3 : Nat) : Int)) 5 ((a + 4 : Nat) : Int)) 6 ((a + 5 : Nat) : Int)) 12 (-1)) 15 ((a + 6 : Nat) : Int)) 17 ((a + 7 : Nat) : Int)) 18 ((a + 8 : Nat) : Int)) 20 ((a + 9 : Nat) : Int)) 21 ((a + 10 : Nat) : Int)) 25 ((a + 11 : Nat) : Int)) 26 ((a + 12 : Nat) : Int)) 33 (-1)) 35 ((a + 13 : Nat) : Int)) 36 ((a + 14 : Nat) : Int)) 37 ((a + 15 : Nat) : Int)) 38 ((a + 16 : Nat) : Int)) 39 ((a + 17 : Nat) : Int)) 40 ((a + 18 : Nat) : Int)) 41 ((a + 19 : Nat) : Int)) 42 ((a + 20 : Nat) : Int)) 43 ((a + 21 : Nat) : Int)) 45 (-1)) 46 ((a + 22 : Nat) : Int)), (12, 7, zdf 12 7), (12, 4080, zdf 12 4080), (12, 8160, zdf 12 8160), (14, 2, zdf 14 2), (12, 400, zdf 12 400), (12, 96, zdf 12 96), (12, 400, zdf 12 400), (12, 400, zdf 12 400), (12, 400, zdf 12 400), (12, 400, zdf 12 400), (13, 13, zdf 13 13), (13, 400, zdf 13 400), (13, 16, zdf 13 16), (13, 16, zdf 13 16), (13, 16, zdf 13 16), (13, 3888, zdf 13 3888), (13, 3888, zdf 13 3888), (12, 5, zdf 12 5), (13, 16, zdf 13 16), (12, 480, zdf 12 480), (13, 16, zdf 13 16), (12, 5, zdf 12 5)]) rfl rfl
  generalize zup (zal μ24 12 5) (a : Int) 46 ((a + 22 : Nat) : Int) = μ25 at D25 ⊢
  refine s_M_init_203 ⟨by omega, ?_⟩
  rw [D25.1]
  have D26 := ((D25.new (t := 12) (L := 5)).pu (r := 0) (a : Int) 47 ((a + 23 : Nat) : Int) rfl rfl).to (n' := 24) (ds := [(11, 0, zsu (zsu (zsu (zsu (zsu (zsu (zsu (zsu (zsu (zsu (zsu (zsu (zsu (zsu (zsu (zsu (zsu (zsu (zsu (zsu (zsu (zsu (zsu (zsu (zsu (zsu (zdf 11 0) 2 ((a + 1 : Nat) : Int)) 3 ((a + 2 : Nat) : Int)) 4 ((a + 3 : Nat) : Int)) 5 ((a + 4 : Nat) : Int)) 6 ((a + 5 : Nat) : Int)) 12 (-1)) 15 ((a + 6 : Nat) : Int)) 17 ((a + 7 : Nat) : Int)) 18 ((a + 8 : Nat) : Int)) 20 ((a + 9 : Nat) : Int)) 21 ((a + 10 : Nat) : Int)) 25 ((a + 11 : Nat) : Int)) 26 ((a + 12 : Nat) : Int)) 33 (-1)) 35 ((a + 13 : Nat) : Int)) 36 ((a + 14 : Nat) : Int)) 37 ((a + 15 : Nat) : Int)) 38 ((a + 16 : Nat) : Int)) 39 ((a + 17 : Nat) : Int)) 40 ((a + 18 : Nat) : Int)) 41 ((a + 19 : Nat) : Int)) 42 ((a + 20 : Nat) : Int)) 43 ((a + 21 : Nat) : Int)) 45 (-1)) 46 ((a + 22 : Nat) : Int)) 47 ((a + 23 : Nat) : Int)), (12, 7, zdf 12 7), (12, 4080, zdf 12 4080), (12, 8160, zdf 12 8160), (14, 2, zdf 14 2), (12, 400, zdf 12 400), (12, 96, zdf 12 96), (12, 400, zdf 12 400), (12, 400, zdf 12 400), (12, 400, zdf 12 400), (12, 400, zdf 12 400), (13, 13, zdf 13 13), (13, 400, zdf 13 400), (13, 16, zdf 13 16), (13, 16, zdf 13 16), (13, 16, zdf 13 16), (13, 3888, zdf 13 3888), (13, 3888, zdf 13 3888), (12, 5, zdf 12 5), (13, 16, zdf 13 16), (12, 480, zdf 12 480), (13, 16, zdf 13 16), (12, 5, zdf 12 5), (12, 5, zdf 12 5)]) rfl rfl
  generalize zup (zal μ25 12 5) (a : Int) 47 ((a + 23 : Nat) : Int) = μ26 at D26 ⊢
  refine s_M_init_210 ⟨by omega, ?_⟩
  rw [D26.1]
  have D27 := ((D26.new (t := 13) (L := 180)).pu (r := 0) (a : Int) 48 ((a + 24 : Nat) : Int) rfl rfl).to (n' := 25) (ds := [(11, 0, zsu (zsu (zsu (zsu (zsu (zsu (zsu (zsu (zsu (zsu (zsu (zsu (zsu (zsu (zsu (zsu (zsu (zsu (zsu (zsu (zsu (zsu (zsu (zsu (zsu (zsu (zsu (zdf 11 0) 2 ((a + 1 : Nat) : Int)) 3 ((a + 2 : Nat) : Int)) 4 ((a + 3 : Nat) : Int)) 5 ((a + 4 : Nat) : Int)) 6 ((a + 5 : Nat) : Int)) 12 (-1)) 15 ((a + 6 : Nat) : Int)) 17 ((a + 7 : Nat) : Int)) 18 ((a + 8 : Nat) : Int)) 20 ((a + 9 : Nat) : Int)) 21 ((a + 10 : Nat) : Int)) 25 ((a + 11 : Nat) : Int)) 26 ((a + 12 : Nat) : Int)) 33 (-1)) 35 ((a + 13 : Nat) : Int)) 36 ((a + 14 : Nat) : Int)) 37 ((a + 15 : Nat) : Int)) 38 ((a + 16 : Nat) : Int)) 39 ((a + 17 : Nat) : Int)) 40 ((a + 18 : Nat) : Int)) 41 ((a + 19 : Nat) : Int)) 42 ((a + 20 : Nat) : Int)) 43 ((a + 21 : Nat) : Int)) 45 (-1)) 46 ((a + 22 : Nat) : Int)) 47 ((a + 23 : Nat) : Int)) 48 ((a + 24 : Nat) : Int)), (12, 7, zdf 12 7), (12, 4080, zdf 12 4080), (12, 8160, zdf 12 8160), (14, 2, zdf 14 2), (12, 400, zdf 12 400), (12, 96, zdf 12 96), (12, 400, zdf 12 400), (12, 400, zdf 12 400), (12, 400, zdf 12 400), (12, 400, zdf 12 400), (13, 13, zdf 13 13), (13, 400, zdf 13 400), (13, 16, zdf 13 16), (13, 16, zdf 13 16), (13, 16, zdf 13 16), (13, 3888, zdf 13 3888), (13, 3888, zdf 13 3888), (12, 5, zdf 12 5), (13, 16, zdf 13 16), (12, 480, zdf 12 480), (13, 16, zdf 13 16), (12, 5, zdf 12 5), (12, 5, zdf 12 5), (13, 180, zdf 13 180)]) rfl rfl
  generalize zup (zal μ26 13 180) (a : Int) 48 ((a + 24 : Nat) : Int) = μ27 at D27 ⊢
  refine s_M_init_219 ⟨by omega, ?_⟩
  rw [D27.1]
  have D28 := ((D27.new (t := 13) (L := 180)).pu (r := 0) (a : Int) 49 ((a + 25 : Nat) : Int) rfl rfl).to (n' := 26) (ds := [(11, 0, zsu (zsu (zsu (zsu (zsu (zsu (zsu (zsu (zsu (zsu (zsu (zsu (zsu (zsu (zsu (zsu (zsu (zsu (zsu (zsu (zsu (zsu (zsu (zsu (zsu (zsu (zsu (zsu (zdf 11 0) 2 ((a + 1 : Nat) : Int)) 3 ((a + 2 : Nat) : Int)) 4 ((a + 3 : Nat) : Int)) 5 ((a + 4 : Nat) : Int)) 6 ((a + 5 : Nat) : Int)) 12 (-1)) 15 ((a + 6 : Nat) : Int)) 17 ((a + 7 : Nat) : Int)) 18 ((a + 8 : Nat) : Int)) 20 ((a + 9 : Nat) : Int)) 21 ((a + 10 : Nat) : Int)) 25 ((a + 11 : Nat) : Int)) 26 ((a + 12 : Nat) : Int)) 33 (-1)) 35 ((a + 13 : Nat) : Int)) 36 ((a + 14 : Nat) : Int)) 37 ((a + 15 : Nat) : Int)) 38 ((a + 16 : Nat) : Int)) 39 ((a + 17 : Nat) : Int)) 40 ((a + 18 : Nat) : Int)) 41 ((a + 19 : Nat) : Int)) 42 ((a + 20 : Nat) : Int)) 43 ((a + 21 : Nat) : Int)) 45 (-1)) 46 ((a + 22 : Nat) : Int)) 47 ((a + 23 : Nat) : Int)) 48 ((a + 24 : Nat) : Int)) 49 ((a + 25 : Nat) : Int)), (12, 7, zdf 12 7), (12, 4080, zdf 12 4080), (12, 8160, zdf 12 8160), (14, 2, zdf 14 2), (12, 400, zdf 12 400), (12, 96, zdf 12 96), (12, 400, zdf 12 400), (12, 400, zdf 12 400), (12, 400, zdf 12 400), (12, 400, zdf 12 400), (13, 13, zdf 13 13), (13, 400, zdf 13 400), (13, 16, zdf 13 16), (13, 16, zdf 13 16), (13, 16, zdf 13 16), (13, 3888, zdf 13 3888), (13, 3888, zdf 13 3888), (12, 5, zdf 12 5), (13, 16, zdf 13 16), (12, 480, zdf 12 480), (13, 16, zdf 13 16), (12, 5, zdf 12 5), (12, 5, zdf 12 5), (13, 180, zdf 13 180), (13, 180, zdf 13 180)]) rfl rfl
  generalize zup (zal μ27 13 180) (a : Int) 49 ((a + 25 : Nat) : Int) = μ28 at D28 ⊢
  refine s_M_init_228 ⟨by omega, ?_⟩
  rw [D28.1]
  have D29 := ((D28.new (t := 13) (L := 360)).pu (r := 0) (a : Int) 50 ((a + 26 : Nat) : Int) rfl rfl).to (n' := 27) (ds := [(11, 0, zsu (zsu (zsu (zsu (zsu (zsu (zsu (zsu (zsu (zsu (zsu (zsu (zsu (zsu (zsu (zsu (zsu (zsu (zsu (zsu (zsu (zsu (zsu (zsu (zsu (zsu (zsu (zsu (zsu (zdf 11 0) 2 ((a + 1 : Nat) : Int)) 3 ((a + 2 : Nat) : Int)) 4 ((a + 3 : Nat) : Int)) 5 ((a + 4 : Nat) : Int)) 6 ((a + 5 : Nat) : Int)) 12 (-1)) 15 ((a + 6 : Nat) : Int)) 17 ((a + 7 : Nat) : Int)) 18 ((a + 8 : Nat) : Int)) 20 ((a + 9 : Nat) : Int)) 21 ((a + 10 : Nat) : Int)) 25 ((a + 11 : Nat) : Int)) 26 ((a + 12 : Nat) : Int)) 33 (-1)) 35 ((a + 13 : Nat) : Int)) 36 ((a + 14 : Nat) : Int)) 37 ((a + 15 : Nat) : Int)) 38 ((a + 16 : Nat) : Int)) 39 ((a + 17 : Nat) : Int)) 40 ((a + 18 : Nat) : Int)) 41 ((a + 19 : Nat) : Int)) 42 ((a + 20 : Nat) : Int)) 43 ((a + 21 : Nat) : Int)) 45 (-1)) 46 ((a + 22 : Nat) : Int)) 47 ((a + 23 : Nat) : Int)) 48 ((a + 24 : Nat) : Int)) 49 ((a + 25 : Nat) : Int)) 50 ((a + 26 : Nat) : Int)), (12, 7, zdf 12 7), (12, 4080, zdf 12 4080), (12, 8160, zdf 12 8160), (14, 2, zdf 14 2), (12, 400, zdf 12 400), (12, 96, zdf 12 96), (12, 400, zdf 12 400), (12, 400, zdf 12 400), (12, 400, zdf 12 400), (12, 400, zdf 12 400), (13, 13, zdf 13 13), (13, 400, zdf 13 400), (13, 16, zdf 13 16), (13, 16, zdf 13 16), (13, 16, zdf 13 16), (13, 3888, zdf 13 3888), (13, 3888, zdf 13 3888), (12, 5, zdf 12 5), (13, 16, zdf 13 16), (12, 480, zdf 12 480), (13, 16, zdf 13 16), (12, 5, zdf 12 5), (12, 5, zdf 12 5), (13, 180, zdf 13 180), (13, 180, zdf 13 180), (13, 360, zdf 13 360)]) rfl rfl
  generalize zup (zal μ28 13 360) (a : Int) 50 ((a + 26 : Nat) : Int) = μ29 at D29 ⊢
  refine s_M_init_237 ⟨by omega, ?_⟩
  rw [D29.1]
  have D30 := ((D29.new (t := 13) (L := 180)).pu (r := 0) (a : Int) 51 ((a + 27 : Nat) : Int) rfl rfl).to (n' := 28) (ds := [(11, 0, zsu (zsu (zsu (zsu (zsu (zsu (zsu (zsu (zsu (zsu (zsu (zsu (zsu (zsu (zsu (zsu (zsu (zsu (zsu (zsu (zsu (zsu (zsu (zsu (zsu (zsu (zsu (zsu (zsu (zsu (zdf 11 0) 2 ((a + 1 : Nat) : Int)) 3 ((a + 2 : Nat) : Int)) 4 ((a + 3 : Nat) : Int)) 5 ((a + 4 : Nat) : Int)) 6 ((a + 5 : Nat) : Int)) 12 (-1)) 15 ((a + 6 : Nat) : Int)) 17 ((a + 7 : Nat) : Int)) 18 ((a + 8 : Nat) : Int)) 20 ((a + 9 : Nat) : Int)) 21 ((a + 10 : Nat) : Int)) 25 ((a + 11 : Nat) : Int)) 26 ((a + 12 : Nat) : Int)) 33 (-1)) 35 ((a + 13 : Nat) : Int)) 36 ((a + 14 : Nat) : Int)) 37 ((a + 15 : Nat) : Int)) 38 ((a + 16 : Nat) : Int)) 39 ((a + 17 : Nat) : Int)) 40 ((a + 18 : Nat) : Int)) 41 ((a + 19 : Nat) : Int)) 42 ((a + 20 : Nat) : Int)) 43 ((a + 21 : Nat) : Int)) 45 (-1)) 46 ((a + 22 : Nat) : Int)) 47 ((a + 23 : Nat) : Int)) 48 ((a + 24 : Nat) : Int)) 49 ((a + 25 : Nat) : Int)) 50 ((a + 26 : Nat) : Int)) 51 ((a + 27 : Nat) : Int)), (12, 7, zdf 12 7), (12, 4080, zdf 12 4080), (12, 8160, zdf 12 8160), (14, 2, zdf 14 2), (12, 400, zdf 12 400), (12, 96, zdf 12 96), (12, 400, zdf 12 400), (12, 400, zdf 12 400), (12, 400, zdf 12 400), (12, 400, zdf 12 400), (13, 13, zdf 13 13), (13, 400, zdf 13 400), (13, 16, zdf 13 16), (13, 16, zdf 13 16), (13, 16, zdf 13 16), (13, 3888, zdf 13 3888), (13, 3888, zdf 13 3888), (12, 5, zdf 12 5), (13, 16, zdf 13 16), (12, 480, zdf 12 480), (13, 16, zdf 13 16), (12, 5, zdf 12 5), (12, 5, zdf 12 5), (13, 180, zdf 13 180), (13, 180, zdf 13 180), (13, 360, zdf 13 360), (13, 180, zdf 13 180)]) rfl rfl
  generalize zup (zal μ29 13 180) (a : Int) 51 ((a + 27 : Nat) : Int) = μ30 at D30 ⊢
  have A0 := D30.to (ds := zp_M a (zdf 12 4080)) rfl rfl
  refine s_M_init_246 ?_
  have e3 : μ30 (a : Int) 3 = ((a + 2 : Nat) : Int) := (A0.ge (r := 0) (a : Int) 3 rfl rfl).trans rfl
  rw [e3]
  refine ⟨by omega, ?_⟩
  have A1 := (A0.pu (r := 2) ((a + 2 : Nat) : Int) 1 (-1) rfl rfl).to (ds := zp_M a (zsu (zdf 12 4080) 1 (-1))) rfl rfl
  generalize zup μ30 ((a + 2 : Nat) : Int) 1 (-1) = τ1 at A1 ⊢
  refine s_M_init_253 ?_
  have e4 : τ1 (a : Int) 3 = ((a + 2 : Nat) : Int) := (A1.ge (r := 0) (a : Int) 3 rfl rfl).trans rfl
  rw [e4]
  refine ⟨by omega, ?_⟩
  have A2 := (A1.pu (r := 2) ((a + 2 : Nat) : Int) 2 6 rfl rfl).to (ds := zp_M a zr_M0) rfl rfl
  generalize zup τ1 ((a + 2 : Nat) : Int) 2 6 = τ2 at A2 ⊢
  exact s_M_init_261 (zE_bud (by omega) (by omega) (k_M_lp1 hd hQ 60 0 (by omega) _ (A2.to (by show _ = zp_M a (zrun zr_M0 100 31 0); rw [zrun_zero]) rfl)))
end

/-! the constructors: Reckoner, Scales -/
theorem zfla_len {G : Nat → zCs} {k : Nat} (h : ∀ s, (G s).length = k) : ∀ i, (zfla G i).length = k * i
  | 0 => rfl
  | i + 1 => by rw [zfla_succ, List.length_append, zfla_len h i, h, Nat.mul_succ]
theorem zDe.pur {μ0 μ : zM} {a n la : Nat} {A B : zCs} {r t L : Nat} {f : Int → Int} (c i v : Int) (D : zDe μ0 μ a n (A ++ B)) (hl : A.length = la) (hx : B[r]? = some (t, L, f)) (hc : c = ((a + (la + r) : Nat) : Int)) : zDe μ0 (zup μ c i v) a n (A ++ B.set r (t, L, zsu f i v)) := by
  refine (D.pu (r := la + r) c i v (by rw [List.getElem?_append_right (by omega), hl, show la + r - la = r by omega]; exact hx) hc).to ?_ rfl
  rw [List.set_append_right _ _ (by omega), hl, show la + r - la = r by omega]
theorem zDe.fir {μ0 μ : zM} {a n la : Nat} {A B : zCs} {r t L : Nat} {f : Int → Int} (c l v : Int) (D : zDe μ0 μ a n (A ++ B)) (hl : A.length = la) (hx : B[r]? = some (t, L, f)) (hc : c = ((a + (la + r) : Nat) : Int)) : zDe μ0 (zfl μ c 0 l v) a n (A ++ B.set r (t, L, zfs9 f l v)) := by
  refine (D.fi (r := la + r) c l v (by rw [List.getElem?_append_right (by omega), hl, show la + r - la = r by omega]; exact hx) hc).to ?_ rfl
  rw [List.set_append_right _ _ (by omega), hl, show la + r - la = r by omega]
theorem zDe.ger {μ0 μ : zM} {a n la : Nat} {A B : zCs} {r t L : Nat} {f : Int → Int} (c i : Int) (D : zDe μ0 μ a n (A ++ B)) (hl : A.length = la) (hx : B[r]? = some (t, L, f)) (hc : c = ((a + (la + r) : Nat) : Int)) : μ c i = f i :=
  D.ge (r := la + r) c i (by rw [List.getElem?_append_right (by omega), hl, show la + r - la = r by omega]; exact hx) hc
theorem zDe.subputr {μ0 μ ν : zM} {a n m la : Nat} {A B C ds : zCs} {r t L : Nat} {f : Int → Int} (c i v : Int) (D : zDe μ0 μ a n (A ++ (B ++ C))) (E : zDe μ ν (a + n) m ds) (hl : A.length = la) (hx : B[r]? = some (t, L, f)) (hc : c = ((a + (la + r) : Nat) : Int)) : zDe μ0 (zup ν c i v) a (n + m) (A ++ (B.set r (t, L, zsu f i v) ++ (C ++ ds))) := by
  have S : zDe μ0 ν a (n + m) (A ++ (B ++ (C ++ ds))) := (D.sub E).to (by simp only [List.append_assoc]) rfl
  have hr : r < B.length := (List.getElem?_eq_some_iff.mp hx).1
  refine (S.pur c i v hl (by rw [List.getElem?_append_left hr]; exact hx) hc).to ?_ rfl
  rw [List.set_append_left _ _ hr]
section
variable {X : zX} {l : Launch} {d : Nat}
def zp_Reckoner (a : Nat) (f16 f17 : Int → Int) : zCs := [(4, 0, zsu (zsu (zsu (zsu (zsu (zsu (zsu (zsu (zsu (zsu (zsu (zsu (zsu (zdf 4 0) 0 ((a + 1 : Nat) : Int)) 1 (-1)) 2 0) 3 0) 4 ((a + 16 : Nat) : Int)) 5 ((a + 17 : Nat) : Int)) 6 0) 7 ((a + 18 : Nat) : Int)) 8 ((a + 19 : Nat) : Int)) 9 ((a + 21 : Nat) : Int)) 10 ((a + 23 : Nat) : Int)) 11 ((a + 25 : Nat) : Int)) 12 ((a + 27 : Nat) : Int))] ++ (zc_Scene (a + 1) ++ ([(20, 243, f16), (21, 243, f17), (12, 5, zdf 12 5)] ++ (zc_Big 15 (a + 19) ++ (zc_Big 15 (a + 21) ++ (zc_Big 15 (a + 23) ++ (zc_Big 15 (a + 25) ++ (zc_Big 15 (a + 27))))))))
def zc_Reckoner (a : Nat) : zCs := zp_Reckoner a (zar (a + 29) 4 243) (zar (a + 31) 4 243) ++ zfla (fun s => zc_Big 15 (a + (29 + 4 * s)) ++ zc_Big 15 (a + (29 + 4 * s + 2))) 243
theorem zc_Reckoner_len (a : Nat) : (zc_Reckoner a).length = 1001 := by
  unfold zc_Reckoner
  rw [List.length_append, zfla_len (k := 4) (fun _ => rfl)]
  rfl
theorem k_Reckoner_lp {μ0 : zM} {a : Nat} {Q : zM → Prop} (hd : 6 ≤ d) (hQ : ∀ ν, zDe μ0 ν a 1001 (zc_Reckoner a) → Q ν) : ∀ k i : Nat, i + k = 243 → ∀ μ, zDe μ0 μ a (29 + 4 * i) (zp_Reckoner a (zar (a + 29) 4 i) (zar (a + 31) 4 i) ++ zfla (fun s => zc_Big 15 (a + (29 + 4 * s)) ++ zc_Big 15 (a + (29 + 4 * s + 2))) i) → zE X false l d (4 * (243 - i)) (36 * (243 - i)) y_Reckoner_init 129 [some (6, 0, (a : Int)), some (0, 0, (i : Int))] [] μ (zrn Q) := by
  intro k
  induction k with
  | zero =>
    intro i hi μ D
    obtain rfl : i = 243 := by omega
    exact s_Reckoner_init_129 ⟨fun _ => hQ μ D, fun z => absurd (by decide) z⟩
  | succ k ih =>
    intro i hi μ D
    refine s_Reckoner_init_129 ⟨fun z => absurd z (by omega), fun _ => s_Reckoner_init_136 (d1 := d - 1) (by omega) ?_⟩
    have e4 : μ (a : Int) 4 = ((a + 16 : Nat) : Int) := (D.gem (r := 0) (a : Int) 4 rfl rfl).trans rfl
    rw [e4, D.1]
    refine ⟨by omega, by omega, by omega, k_Big_init (n := 15) (((zDe.nil D.1).new (t := 0) (L := 15)).to rfl rfl) (by omega) (by decide) (by decide) (fun ν E => ⟨by omega, ?_⟩)⟩
    have D2 := (D.subput (r := 16) ((a + 16 : Nat) : Int) (i : Int) ((a + (29 + 4 * i) : Nat) : Int) E rfl rfl).to (n' := 29 + 4 * i + 2) (ds := zp_Reckoner a (zar (a + 29) 4 (i + 1)) (zar (a + 31) 4 i) ++ (zfla (fun s => zc_Big 15 (a + (29 + 4 * s)) ++ zc_Big 15 (a + (29 + 4 * s + 2))) i ++ zc_Big 15 (a + (29 + 4 * i)))) (by rw [zar_succ (c := a + 29) (st := 4) (by rw [Nat.add_assoc])]; rfl) rfl
    generalize zup ν ((a + 16 : Nat) : Int) (i : Int) ((a + (29 + 4 * i) : Nat) : Int) = μ2 at D2 ⊢
    refine s_Reckoner_init_151 (d1 := d - 1) (by omega) ?_
    have e5 : μ2 (a : Int) 5 = ((a + 17 : Nat) : Int) := (D2.gem (r := 0) (a : Int) 5 rfl rfl).trans rfl
    rw [e5, D2.1, zw_of (show -2147483648 ≤ (i : Int) + 1 by omega) (by omega)]
    refine ⟨by omega, by omega, by omega, k_Big_init (n := 15) (((zDe.nil D2.1).new (t := 0) (L := 15)).to rfl rfl) (by omega) (by decide) (by decide) (fun ν E => ⟨by omega, zE_bud (by omega) (by omega) (ih (i + 1) (by omega) _ ((D2.subput (r := 17) ((a + 17 : Nat) : Int) (i : Int) ((a + (29 + 4 * i + 2) : Nat) : Int) E rfl rfl).to ?_ (by omega)))⟩)⟩
    rw [zar_succ (c := a + 31) (st := 4) (by congr 1; omega), zfla_succ (fun s => zc_Big 15 (a + (29 + 4 * s)) ++ zc_Big 15 (a + (29 + 4 * s + 2))) i, List.append_assoc]
    rfl
theorem k_Reckoner_init {μ0 μ : zM} {a : Nat} {Q : zM → Prop} (D0 : zDe μ0 μ a 1 [(4, 0, zdf 4 0)]) (hd : 6 ≤ d) (hQ : ∀ ν, zDe μ0 ν a 1001 (zc_Reckoner a) → Q ν) : zCv X false l d 1000 9479 y_Reckoner_init [(6, 0, (a : Int))] μ Q := by
  refine zC'_of (by decide +kernel) (Nat.le_of_ble_eq_true rfl) rfl ?_
  refine s_Reckoner_init_0 (by omega) ?_
  refine s_Reckoner_init_4 (d1 := d - 1) (by omega) ⟨by decide, by decide, ?_⟩
  rw [D0.1]
  refine k_Scene_init (((zDe.nil D0.1).new (t := 8) (L := 0)).to rfl rfl) (by omega) (fun ν1 E1 => ?_)
  have D1 := ((D0.sub E1).pu (r := 0) (a : Int) 0 ((a + 1 : Nat) : Int) rfl rfl).to (n' := 16) (ds := [(4, 0, zsu (zdf 4 0) 0 ((a + 1 : Nat) : Int))] ++ (zc_Scene (a + 1))) rfl rfl
  generalize zup (ν1) (a : Int) 0 ((a + 1 : Nat) : Int) = μ1 at D1 ⊢
  refine s_Reckoner_init_15 ?_
  have D2 := (D1.pu (r := 0) (a : Int) 1 (-1) rfl rfl).to (n' := 16) (ds := [(4, 0, zsu (zsu (zdf 4 0) 0 ((a + 1 : Nat) : Int)) 1 (-1))] ++ (zc_Scene (a + 1))) rfl rfl
  generalize zup (μ1) (a : Int) 1 (-1) = μ2 at D2 ⊢
  refine s_Reckoner_init_20 ?_
  have D3 := (D2.pu (r := 0) (a : Int) 2 0 rfl rfl).to (n' := 16) (ds := [(4, 0, zsu (zsu (zsu (zdf 4 0) 0 ((a + 1 : Nat) : Int)) 1 (-1)) 2 0)] ++ (zc_Scene (a + 1))) rfl rfl
  generalize zup (μ2) (a : Int) 2 0 = μ3 at D3 ⊢
  refine s_Reckoner_init_25 ?_
  have D4 := (D3.pu (r := 0) (a : Int) 3 0 rfl rfl).to (n' := 16) (ds := [(4, 0, zsu (zsu (zsu (zsu (zdf 4 0) 0 ((a + 1 : Nat) : Int)) 1 (-1)) 2 0) 3 0)] ++ (zc_Scene (a + 1))) rfl rfl
  generalize zup (μ3) (a : Int) 3 0 = μ4 at D4 ⊢
  refine s_Reckoner_init_30 ⟨by omega, ?_⟩
  rw [D4.1]
  have D5 := ((D4.new (t := 20) (L := 243)).pu (r := 0) (a : Int) 4 ((a + 16 : Nat) : Int) rfl rfl).to (n' := 17) (ds := [(4, 0, zsu (zsu (zsu (zsu (zsu (zdf 4 0) 0 ((a + 1 : Nat) : Int)) 1 (-1)) 2 0) 3 0) 4 ((a + 16 : Nat) : Int))] ++ (zc_Scene (a + 1) ++ ([(20, 243, zdf 20 243)]))) rfl rfl
  generalize zup (zal μ4 20 243) (a : Int) 4 ((a + 16 : Nat) : Int) = μ5 at D5 ⊢
  refine s_Reckoner_init_40 ⟨by omega, ?_⟩
  rw [D5.1]
  have D6 := ((D5.new (t := 21) (L := 243)).pu (r := 0) (a : Int) 5 ((a + 17 : Nat) : Int) rfl rfl).to (n' := 18) (ds := [(4, 0, zsu (zsu (zsu (zsu (zsu (zsu (zdf 4 0) 0 ((a + 1 : Nat) : Int)) 1 (-1)) 2 0) 3 0) 4 ((a + 16 : Nat) : Int)) 5 ((a + 17 : Nat) : Int))] ++ (zc_Scene (a + 1) ++ ([(20, 243, zdf 20 243), (21, 243, zdf 21 243)]))) rfl rfl
  generalize zup (zal μ5 21 243) (a : Int) 5 ((a + 17 : Nat) : Int) = μ6 at D6 ⊢
  refine s_Reckoner_init_50 ?_
  have D7 := (D6.pu (r := 0) (a : Int) 6 0 rfl rfl).to (n' := 18) (ds := [(4, 0, zsu (zsu (zsu (zsu (zsu (zsu (zsu (zdf 4 0) 0 ((a + 1 : Nat) : Int)) 1 (-1)) 2 0) 3 0) 4 ((a + 16 : Nat) : Int)) 5 ((a + 17 : Nat) : Int)) 6 0)] ++ (zc_Scene (a + 1) ++ ([(20, 243, zdf 20 243), (21, 243, zdf 21 243)]))) rfl rfl
  generalize zup (μ6) (a : Int) 6 0 = μ7 at D7 ⊢
  refine s_Reckoner_init_55 ⟨by omega, ?_⟩
  rw [D7.1]
  have D8 := ((D7.new (t := 12) (L := 5)).pu (r := 0) (a : Int) 7 ((a + 18 : Nat) : Int) rfl rfl).to (n' := 19) (ds := [(4, 0, zsu (zsu (zsu (zsu (zsu (zsu (zsu (zsu (zdf 4 0) 0 ((a + 1 : Nat) : Int)) 1 (-1)) 2 0) 3 0) 4 ((a + 16 : Nat) : Int)) 5 ((a + 17 : Nat) : Int)) 6 0) 7 ((a + 18 : Nat) : Int))] ++ (zc_Scene (a + 1) ++ ([(20, 243, zdf 20 243), (21, 243, zdf 21 243), (12, 5, zdf 12 5)]))) rfl rfl
  generalize zup (zal μ7 12 5) (a : Int) 7 ((a + 18 : Nat) : Int) = μ8 at D8 ⊢
  refine s_Reckoner_init_62 (d1 := d - 1) (by omega) ⟨by decide, by decide, ?_⟩
  rw [D8.1]
  refine k_Big_init (n := 15) (((zDe.nil D8.1).new (t := 0) (L := 15)).to rfl rfl) (by omega) (by decide) (by decide) (fun ν9 E9 => ?_)
  have D9 := ((D8.sub E9).pu (r := 0) (a : Int) 8 ((a + 19 : Nat) : Int) rfl rfl).to (n' := 21) (ds := [(4, 0, zsu (zsu (zsu (zsu (zsu (zsu (zsu (zsu (zsu (zdf 4 0) 0 ((a + 1 : Nat) : Int)) 1 (-1)) 2 0) 3 0) 4 ((a + 16 : Nat) : Int)) 5 ((a + 17 : Nat) : Int)) 6 0) 7 ((a + 18 : Nat) : Int)) 8 ((a + 19 : Nat) : Int))] ++ (zc_Scene (a + 1) ++ ([(20, 243, zdf 20 243), (21, 243, zdf 21 243), (12, 5, zdf 12 5)] ++ (zc_Big 15 (a + 19))))) rfl rfl
  generalize zup (ν9) (a : Int) 8 ((a + 19 : Nat) : Int) = μ9 at D9 ⊢
  refine s_Reckoner_init_75 (d1 := d - 1) (by omega) ⟨by decide, by decide, ?_⟩
  rw [D9.1]
  refine k_Big_init (n := 15) (((zDe.nil D9.1).new (t := 0) (L := 15)).to rfl rfl) (by omega) (by decide) (by decide) (fun ν10 E10 => ?_)
  have D10 := ((D9.sub E10).pu (r := 0) (a : Int) 9 ((a + 21 : Nat) : Int) rfl rfl).to (n' := 23) (ds := [(4, 0, zsu (zsu (zsu (zsu (zsu (zsu (zsu (zsu (zsu (zsu (zdf 4 0) 0 ((a + 1 : Nat) : Int)) 1 (-1)) 2 0) 3 0) 4 ((a + 16 : Nat) : Int)) 5 ((a + 17 : Nat) : Int)) 6 0) 7 ((a + 18 : Nat) : Int)) 8 ((a + 19 : Nat) : Int)) 9 ((a + 21 : Nat) : Int))] ++ (zc_Scene (a + 1) ++ ([(20, 243, zdf 20 243), (21, 243, zdf 21 243), (12, 5, zdf 12 5)] ++ (zc_Big 15 (a + 19) ++ (zc_Big 15 (a + 21)))))) rfl rfl
  generalize zup (ν10) (a : Int) 9 ((a + 21 : Nat) : Int) = μ10 at D10 ⊢
  refine s_Reckoner_init_88 (d1 := d - 1) (by omega) ⟨by decide, by decide, ?_⟩
  rw [D10.1]
  refine k_Big_init (n := 15) (((zDe.nil D10.1).new (t := 0) (L := 15)).to rfl rfl) (by omega) (by decide) (by decide) (fun ν11 E11 => ?_)
  have D11 := ((D10.sub E11).pu (r := 0) (a : Int) 10 ((a + 23 : Nat) : Int) rfl rfl).to (n' := 25) (ds := [(4, 0, zsu (zsu (zsu (zsu (zsu (zsu (zsu (zsu (zsu (zsu (zsu (zdf 4 0) 0 ((a + 1 : Nat) : Int)) 1 (-1)) 2 0) 3 0) 4 ((a + 16 : Nat) : Int)) 5 ((a + 17 : Nat) : Int)) 6 0) 7 ((a + 18 : Nat) : Int)) 8 ((a + 19 : Nat) : Int)) 9 ((a + 21 : Nat) : Int)) 10 ((a + 23 : Nat) : Int))] ++ (zc_Scene (a + 1) ++ ([(20, 243, zdf 20 243), (21, 243, zdf 21 243), (12, 5, zdf 12 5)] ++ (zc_Big 15 (a + 19) ++ (zc_Big 15 (a + 21) ++ (zc_Big 15 (a + 23))))))) rfl rfl
  generalize zup (ν11) (a : Int) 10 ((a + 23 : Nat) : Int) = μ11 at D11 ⊢
  refine s_Reckoner_init_101 (d1 := d - 1) (by omega) ⟨by decide, by decide, ?_⟩
  rw [D11.1]
  refine k_Big_init (n := 15) (((zDe.nil D11.1).new (t := 0) (L := 15)).to rfl rfl) (by omega) (by decide) (by decide) (fun ν12 E12 => ?_)
  have D12 := ((D11.sub E12).pu (r := 0) (a : Int) 11 ((a + 25 : Nat) : Int) rfl rfl).to (n' := 27) (ds := [(4, 0, zsu (zsu (zsu (zsu (zsu (zsu (zsu (zsu (zsu (zsu (zsu (zsu (zdf 4 0) 0 ((a + 1 : Nat) : Int)) 1 (-1)) 2 0) 3 0) 4 ((a + 16 : Nat) : Int)) 5 ((a + 17 : Nat) : Int)) 6 0) 7 ((a + 18 : Nat) : Int)) 8 ((a + 19 : Nat) : Int)) 9 ((a + 21 : Nat) : Int)) 10 ((a + 23 : Nat) : Int)) 11 ((a + 25 : Nat) : Int))] ++ (zc_Scene (a + 1) ++ ([(20, 243, zdf 20 243), (21, 243, zdf 21 243), (12, 5, zdf 12 5)] ++ (zc_Big 15 (a + 19) ++ (zc_Big 15 (a + 21) ++ (zc_Big 15 (a + 23) ++ (zc_Big 15 (a + 25)))))))) rfl rfl
  generalize zup (ν12) (a : Int) 11 ((a + 25 : Nat) : Int) = μ12 at D12 ⊢
  refine s_Reckoner_init_114 (d1 := d - 1) (by omega) ⟨by decide, by decide, ?_⟩
  rw [D12.1]
  refine k_Big_init (n := 15) (((zDe.nil D12.1).new (t := 0) (L := 15)).to rfl rfl) (by omega) (by decide) (by decide) (fun ν13 E13 => ?_)
  have D13 := ((D12.sub E13).pu (r := 0) (a : Int) 12 ((a + 27 : Nat) : Int) rfl rfl).to (n' := 29) (ds := [(4, 0, zsu (zsu (zsu (zsu (zsu (zsu (zsu (zsu (zsu (zsu (zsu (zsu (zsu (zdf 4 0) 0 ((a + 1 : Nat) : Int)) 1 (-1)) 2 0) 3 0) 4 ((a + 16 : Nat) : Int)) 5 ((a + 17 : Nat) : Int)) 6 0) 7 ((a + 18 : Nat) : Int)) 8 ((a + 19 : Nat) : Int)) 9 ((a + 21 : Nat) : Int)) 10 ((a + 23 : Nat) : Int)) 11 ((a + 25 : Nat) : Int)) 12 ((a + 27 : Nat) : Int))] ++ (zc_Scene (a + 1) ++ ([(20, 243, zdf 20 243), (21, 243, zdf 21 243), (12, 5, zdf 12 5)] ++ (zc_Big 15 (a + 19) ++ (zc_Big 15 (a + 21) ++ (zc_Big 15 (a + 23) ++ (zc_Big 15 (a + 25) ++ (zc_Big 15 (a + 27))))))))) rfl rfl
  generalize zup (ν13) (a : Int) 12 ((a + 27 : Nat) : Int) = μ13 at D13 ⊢
  refine s_Reckoner_init_127 (zE_bud (by omega) (by omega) (k_Reckoner_lp hd hQ 243 0 (by omega) _ (D13.to ?_ rfl)))
  rw [← zar_zero (t := 20) (L := 243) (c := a + 29) (st := 4) (fun _ => Nat.le_of_ble_eq_true rfl), ← zar_zero (t := 21) (L := 243) (c := a + 31) (st := 4) (fun _ => Nat.le_of_ble_eq_true rfl)]
  rfl
def zb_Scales (a : Nat) : zCs := (7, 0, zsu (zsu (zsu (zsu (zsu (zsu (zsu (zsu (zsu (zdf 7 0) 0 ((a + 1 : Nat) : Int)) 1 0) 2 ((a + 1002 : Nat) : Int)) 3 ((a + 1003 : Nat) : Int)) 4 ((a + 1004 : Nat) : Int)) 5 ((a + 1005 : Nat) : Int)) 6 ((a + 1006 : Nat) : Int)) 7 ((a + 1008 : Nat) : Int)) 8 ((a + 1010 : Nat) : Int)) :: zc_Reckoner (a + 1)
def zq_Scales (a : Nat) (f g h k : Int → Int) : zCs := [(22, 4, f), (23, 4, g), (24, 4, h), (25, 4, k)] ++ (zc_Big 170 (a + 1006) ++ (zc_Big 170 (a + 1008) ++ zc_Big 170 (a + 1010)))
def zc_Scales (a : Nat) : zCs := zb_Scales a ++ (zq_Scales a (zar (a + 1012) 8 4) (zar (a + 1014) 8 4) (zar (a + 1016) 8 4) (zar (a + 1018) 8 4) ++ zfla (fun s => zc_Big 170 (a + (1012 + 8 * s)) ++ (zc_Big 170 (a + (1012 + 8 * s + 2)) ++ (zc_Big 15 (a + (1012 + 8 * s + 4)) ++ zc_Big 15 (a + (1012 + 8 * s + 6))))) 4)
theorem zb_Scales_len (a : Nat) : (zb_Scales a).length = 1002 := by
  unfold zb_Scales
  rw [List.length_cons, zc_Reckoner_len]
theorem zc_Scales_len (a : Nat) : (zc_Scales a).length = 1044 := by
  unfold zc_Scales
  rw [List.length_append, List.length_append, zfla_len (k := 8) (fun _ => rfl), zb_Scales_len]
  rfl
theorem k_Scales_lp {μ0 : zM} {a : Nat} {Q : zM → Prop} (hd : 8 ≤ d) (hQ : ∀ ν, zDe μ0 ν a 1044 (zc_Scales a) → Q ν) : ∀ k i : Nat, i + k = 4 → ∀ μ, zDe μ0 μ a (1012 + 8 * i) (zb_Scales a ++ (zq_Scales a (zar (a + 1012) 8 i) (zar (a + 1014) 8 i) (zar (a + 1016) 8 i) (zar (a + 1018) 8 i) ++ zfla (fun s => zc_Big 170 (a + (1012 + 8 * s)) ++ (zc_Big 170 (a + (1012 + 8 * s + 2)) ++ (zc_Big 15 (a + (1012 + 8 * s + 4)) ++ zc_Big 15 (a + (1012 + 8 * s + 6))))) i)) → zE X false l d (8 * (4 - i)) (382 * (4 - i)) y_Scales_init 96 [some (9, 0, (a : Int)), some (0, 0, (i : Int))] [] μ (zrn Q) := by
  intro k
  induction k with
  | zero =>
    intro i hi μ D
    obtain rfl : i = 4 := by omega
    exact s_Scales_init_96 ⟨fun _ => hQ μ D, fun z => absurd (by decide) z⟩
  | succ k ih =>
    intro i hi μ D0
    refine s_Scales_init_96 ⟨fun z => absurd z (by omega), fun _ => ?_⟩
    refine s_Scales_init_101 (d1 := d - 1) (by omega) ?_
    have e0 : μ (a : Int) 2 = ((a + 1002 : Nat) : Int) := (D0.gem (A := zb_Scales a) (r := 0) (a : Int) 2 rfl rfl).trans rfl
    rw [e0, D0.1]
    refine ⟨by omega, by omega, by omega, k_Big_init (n := 170) (((zDe.nil D0.1).new (t := 0) (L := 170)).to rfl rfl) (by omega) (by decide) (by decide) (fun ν E => ⟨by omega, ?_⟩)⟩
    have D1 := (D0.subputr (r := 0) ((a + 1002 : Nat) : Int) (i : Int) ((a + (1012 + 8 * i) : Nat) : Int) E (zb_Scales_len a) rfl rfl).to (n' := 1012 + 8 * i + 2) (ds := zb_Scales a ++ (zq_Scales a (zar (a + 1012) 8 (i + 1)) (zar (a + 1014) 8 i) (zar (a + 1016) 8 i) (zar (a + 1018) 8 i) ++ (zfla (fun s => zc_Big 170 (a + (1012 + 8 * s)) ++ (zc_Big 170 (a + (1012 + 8 * s + 2)) ++ (zc_Big 15 (a + (1012 + 8 * s + 4)) ++ zc_Big 15 (a + (1012 + 8 * s + 6))))) i ++ zc_Big 170 (a + (1012 + 8 * i))))) (by rw [zar_succ (c := a + 1012) (st := 8) (by congr 1; omega)]; rfl) rfl
    generalize zup ν ((a + 1002 : Nat) : Int) (i : Int) ((a + (1012 + 8 * i) : Nat) : Int) = μ1 at D1 ⊢
    refine s_Scales_init_117 (d1 := d - 1) (by omega) ?_
    have e1 : μ1 (a : Int) 3 = ((a + 1003 : Nat) : Int) := (D1.gem (A := zb_Scales a) (r := 0) (a : Int) 3 rfl rfl).trans rfl
    rw [e1, D1.1]
    refine ⟨by omega, by omega, by omega, k_Big_init (n := 170) (((zDe.nil D1.1).new (t := 0) (L := 170)).to rfl rfl) (by omega) (by decide) (by decide) (fun ν E => ⟨by omega, ?_⟩)⟩
    have D2 := (D1.subputr (r := 1) ((a + 1003 : Nat) : Int) (i : Int) ((a + (1012 + 8 * i + 2) : Nat) : Int) E (zb_Scales_len a) rfl rfl).to (n' := 1012 + 8 * i + 4) (ds := zb_Scales a ++ (zq_Scales a (zar (a + 1012) 8 (i + 1)) (zar (a + 1014) 8 (i + 1)) (zar (a + 1016) 8 i) (zar (a + 1018) 8 i) ++ ((zfla (fun s => zc_Big 170 (a + (1012 + 8 * s)) ++ (zc_Big 170 (a + (1012 + 8 * s + 2)) ++ (zc_Big 15 (a + (1012 + 8 * s + 4)) ++ zc_Big 15 (a + (1012 + 8 * s + 6))))) i ++ zc_Big 170 (a + (1012 + 8 * i))) ++ zc_Big 170 (a + (1012 + 8 * i + 2))))) (by rw [zar_succ (c := a + 1014) (st := 8) (by congr 1; omega)]; rfl) rfl
    generalize zup ν ((a + 1003 : Nat) : Int) (i : Int) ((a + (1012 + 8 * i + 2) : Nat) : Int) = μ2 at D2 ⊢
    refine s_Scales_init_133 (d1 := d - 1) (by omega) ?_
    have e2 : μ2 (a : Int) 4 = ((a + 1004 : Nat) : Int) := (D2.gem (A := zb_Scales a) (r := 0) (a : Int) 4 rfl rfl).trans rfl
    rw [e2, D2.1]
    refine ⟨by omega, by omega, by omega, k_Big_init (n := 15) (((zDe.nil D2.1).new (t := 0) (L := 15)).to rfl rfl) (by omega) (by decide) (by decide) (fun ν E => ⟨by omega, ?_⟩)⟩
    have D3 := (D2.subputr (r := 2) ((a + 1004 : Nat) : Int) (i : Int) ((a + (1012 + 8 * i + 4) : Nat) : Int) E (zb_Scales_len a) rfl rfl).to (n' := 1012 + 8 * i + 6) (ds := zb_Scales a ++ (zq_Scales a (zar (a + 1012) 8 (i + 1)) (zar (a + 1014) 8 (i + 1)) (zar (a + 1016) 8 (i + 1)) (zar (a + 1018) 8 i) ++ (((zfla (fun s => zc_Big 170 (a + (1012 + 8 * s)) ++ (zc_Big 170 (a + (1012 + 8 * s + 2)) ++ (zc_Big 15 (a + (1012 + 8 * s + 4)) ++ zc_Big 15 (a + (1012 + 8 * s + 6))))) i ++ zc_Big 170 (a + (1012 + 8 * i))) ++ zc_Big 170 (a + (1012 + 8 * i + 2))) ++ zc_Big 15 (a + (1012 + 8 * i + 4))))) (by rw [zar_succ (c := a + 1016) (st := 8) (by congr 1; omega)]; rfl) rfl
    generalize zup ν ((a + 1004 : Nat) : Int) (i : Int) ((a + (1012 + 8 * i + 4) : Nat) : Int) = μ3 at D3 ⊢
    refine s_Scales_init_148 (d1 := d - 1) (by omega) ?_
    have e3 : μ3 (a : Int) 5 = ((a + 1005 : Nat) : Int) := (D3.gem (A := zb_Scales a) (r := 0) (a : Int) 5 rfl rfl).trans rfl
    rw [e3, D3.1, zw_of (show -2147483648 ≤ (i : Int) + 1 by omega) (by omega)]
    refine ⟨by omega, by omega, by omega, k_Big_init (n := 15) (((zDe.nil D3.1).new (t := 0) (L := 15)).to rfl rfl) (by omega) (by decide) (by decide) (fun ν E => ⟨by omega, ?_⟩)⟩
    refine zE_bud (by omega) (by omega) (ih (i + 1) (by omega) _ ((D3.subputr (r := 3) ((a + 1005 : Nat) : Int) (i : Int) ((a + (1012 + 8 * i + 6) : Nat) : Int) E (zb_Scales_len a) rfl rfl).to ?_ (by omega)))
    rw [zar_succ (c := a + 1018) (st := 8) (by congr 1; omega), zfla_succ (fun s => zc_Big 170 (a + (1012 + 8 * s)) ++ (zc_Big 170 (a + (1012 + 8 * s + 2)) ++ (zc_Big 15 (a + (1012 + 8 * s + 4)) ++ zc_Big 15 (a + (1012 + 8 * s + 6))))) i]
    simp only [List.append_assoc]
    rfl

theorem k_Scales_init {μ0 μ : zM} {a : Nat} {Q : zM → Prop} (D0 : zDe μ0 μ a 1 [(7, 0, zdf 7 0)]) (hd : 8 ≤ d) (hQ : ∀ ν, zDe μ0 ν a 1044 (zc_Scales a) → Q ν) : zCv X false l d 1043 11555 y_Scales_init [(9, 0, (a : Int))] μ Q := by
  refine zC'_of (by decide +kernel) (Nat.le_of_ble_eq_true rfl) rfl ?_
  refine s_Scales_init_0 (by omega) ?_
  refine s_Scales_init_4 (d1 := d - 1) (by omega) ⟨by decide, by decide, ?_⟩
  rw [D0.1]
  refine k_Reckoner_init (((zDe.nil D0.1).new (t := 4) (L := 0)).to rfl rfl) (by omega) (fun ν1 E1 => ?_)
  have D1 := ((D0.sub E1).pu (r := 0) (a : Int) 0 ((a + 1 : Nat) : Int) rfl rfl).to (n' := 1002) (ds := [(7, 0, zsu (zdf 7 0) 0 ((a + 1 : Nat) : Int))] ++ (zc_Reckoner (a + 1))) (by simp only [List.set_cons_zero, List.cons_append, List.nil_append, List.append_assoc]) rfl
  generalize zup (ν1) (a : Int) 0 ((a + 1 : Nat) : Int) = μ1 at D1 ⊢
  refine s_Scales_init_15 ?_
  have D2 := (D1.pu (r := 0) (a : Int) 1 0 rfl rfl).to (n' := 1002) (ds := [(7, 0, zsu (zsu (zdf 7 0) 0 ((a + 1 : Nat) : Int)) 1 0)] ++ (zc_Reckoner (a + 1))) (by simp only [List.set_cons_zero, List.cons_append, List.nil_append, List.append_assoc]) rfl
  generalize zup (μ1) (a : Int) 1 0 = μ2 at D2 ⊢
  refine s_Scales_init_20 ⟨by omega, ?_⟩
  rw [D2.1]
  have D3 := ((D2.new (t := 22) (L := 4)).pu (r := 0) (a : Int) 2 ((a + 1002 : Nat) : Int) rfl rfl).to (n' := 1003) (ds := [(7, 0, zsu (zsu (zsu (zdf 7 0) 0 ((a + 1 : Nat) : Int)) 1 0) 2 ((a + 1002 : Nat) : Int))] ++ (zc_Reckoner (a + 1) ++ ([(22, 4, zdf 22 4)]))) (by simp only [List.set_cons_zero, List.cons_append, List.nil_append, List.append_assoc]) rfl
  generalize zup (zal μ2 22 4) (a : Int) 2 ((a + 1002 : Nat) : Int) = μ3 at D3 ⊢
  refine s_Scales_init_28 ⟨by omega, ?_⟩
  rw [D3.1]
  have D4 := ((D3.new (t := 23) (L := 4)).pu (r := 0) (a : Int) 3 ((a + 1003 : Nat) : Int) rfl rfl).to (n' := 1004) (ds := [(7, 0, zsu (zsu (zsu (zsu (zdf 7 0) 0 ((a + 1 : Nat) : Int)) 1 0) 2 ((a + 1002 : Nat) : Int)) 3 ((a + 1003 : Nat) : Int))] ++ (zc_Reckoner (a + 1) ++ ([(22, 4, zdf 22 4), (23, 4, zdf 23 4)]))) (by simp only [List.set_cons_zero, List.cons_append, List.nil_append, List.append_assoc]) rfl
  generalize zup (zal μ3 23 4) (a : Int) 3 ((a + 1003 : Nat) : Int) = μ4 at D4 ⊢
  refine s_Scales_init_36 ⟨by omega, ?_⟩
  rw [D4.1]
  have D5 := ((D4.new (t := 24) (L := 4)).pu (r := 0) (a : Int) 4 ((a + 1004 : Nat) : Int) rfl rfl).to (n' := 1005) (ds := [(7, 0, zsu (zsu (zsu (zsu (zsu (zdf 7 0) 0 ((a + 1 : Nat) : Int)) 1 0) 2 ((a + 1002 : Nat) : Int)) 3 ((a + 1003 : Nat) : Int)) 4 ((a + 1004 : Nat) : Int))] ++ (zc_Reckoner (a + 1) ++ ([(22, 4, zdf 22 4), (23, 4, zdf 23 4), (24, 4, zdf 24 4)]))) (by simp only [List.set_cons_zero, List.cons_append, List.nil_append, List.append_assoc]) rfl
  generalize zup (zal μ4 24 4) (a : Int) 4 ((a + 1004 : Nat) : Int) = μ5 at D5 ⊢
  refine s_Scales_init_44 ⟨by omega, ?_⟩
  rw [D5.1]
  have D6 := ((D5.new (t := 25) (L := 4)).pu (r := 0) (a : Int) 5 ((a + 1005 : Nat) : Int) rfl rfl).to (n' := 1006) (ds := [(7, 0, zsu (zsu (zsu (zsu (zsu (zsu (zdf 7 0) 0 ((a + 1 : Nat) : Int)) 1 0) 2 ((a + 1002 : Nat) : Int)) 3 ((a + 1003 : Nat) : Int)) 4 ((a + 1004 : Nat) : Int)) 5 ((a + 1005 : Nat) : Int))] ++ (zc_Reckoner (a + 1) ++ ([(22, 4, zdf 22 4), (23, 4, zdf 23 4), (24, 4, zdf 24 4), (25, 4, zdf 25 4)]))) (by simp only [List.set_cons_zero, List.cons_append, List.nil_append, List.append_assoc]) rfl
  generalize zup (zal μ5 25 4) (a : Int) 5 ((a + 1005 : Nat) : Int) = μ6 at D6 ⊢
  refine s_Scales_init_52 (d1 := d - 1) (by omega) ⟨by decide, by decide, ?_⟩
  rw [D6.1]
  refine k_Big_init (n := 170) (((zDe.nil D6.1).new (t := 0) (L := 170)).to rfl rfl) (by omega) (by decide) (by decide) (fun ν7 E7 => ?_)
  have D7 := ((D6.sub E7).pu (r := 0) (a : Int) 6 ((a + 1006 : Nat) : Int) rfl rfl).to (n' := 1008) (ds := [(7, 0, zsu (zsu (zsu (zsu (zsu (zsu (zsu (zdf 7 0) 0 ((a + 1 : Nat) : Int)) 1 0) 2 ((a + 1002 : Nat) : Int)) 3 ((a + 1003 : Nat) : Int)) 4 ((a + 1004 : Nat) : Int)) 5 ((a + 1005 : Nat) : Int)) 6 ((a + 1006 : Nat) : Int))] ++ (zc_Reckoner (a + 1) ++ ([(22, 4, zdf 22 4), (23, 4, zdf 23 4), (24, 4, zdf 24 4), (25, 4, zdf 25 4)] ++ (zc_Big 170 (a + 1006))))) (by simp only [List.set_cons_zero, List.cons_append, List.nil_append, List.append_assoc]) rfl
  generalize zup (ν7) (a : Int) 6 ((a + 1006 : Nat) : Int) = μ7 at D7 ⊢
  refine s_Scales_init_66 (d1 := d - 1) (by omega) ⟨by decide, by decide, ?_⟩
  rw [D7.1]
  refine k_Big_init (n := 170) (((zDe.nil D7.1).new (t := 0) (L := 170)).to rfl rfl) (by omega) (by decide) (by decide) (fun ν8 E8 => ?_)
  have D8 := ((D7.sub E8).pu (r := 0) (a : Int) 7 ((a + 1008 : Nat) : Int) rfl rfl).to (n' := 1010) (ds := [(7, 0, zsu (zsu (zsu (zsu (zsu (zsu (zsu (zsu (zdf 7 0) 0 ((a + 1 : Nat) : Int)) 1 0) 2 ((a + 1002 : Nat) : Int)) 3 ((a + 1003 : Nat) : Int)) 4 ((a + 1004 : Nat) : Int)) 5 ((a + 1005 : Nat) : Int)) 6 ((a + 1006 : Nat) : Int)) 7 ((a + 1008 : Nat) : Int))] ++ (zc_Reckoner (a + 1) ++ ([(22, 4, zdf 22 4), (23, 4, zdf 23 4), (24, 4, zdf 24 4), (25, 4, zdf 25 4)] ++ (zc_Big 170 (a + 1006) ++ (zc_Big 170 (a + 1008)))))) (by simp only [List.set_cons_zero, List.cons_append, List.nil_append, List.append_assoc]) rfl
  generalize zup (ν8) (a : Int) 7 ((a + 1008 : Nat) : Int) = μ8 at D8 ⊢
  refine s_Scales_init_80 (d1 := d - 1) (by omega) ⟨by decide, by decide, ?_⟩
  rw [D8.1]
  refine k_Big_init (n := 170) (((zDe.nil D8.1).new (t := 0) (L := 170)).to rfl rfl) (by omega) (by decide) (by decide) (fun ν9 E9 => ?_)
  have D9 := ((D8.sub E9).pu (r := 0) (a : Int) 8 ((a + 1010 : Nat) : Int) rfl rfl).to (n' := 1012) (ds := [(7, 0, zsu (zsu (zsu (zsu (zsu (zsu (zsu (zsu (zsu (zdf 7 0) 0 ((a + 1 : Nat) : Int)) 1 0) 2 ((a + 1002 : Nat) : Int)) 3 ((a + 1003 : Nat) : Int)) 4 ((a + 1004 : Nat) : Int)) 5 ((a + 1005 : Nat) : Int)) 6 ((a + 1006 : Nat) : Int)) 7 ((a + 1008 : Nat) : Int)) 8 ((a + 1010 : Nat) : Int))] ++ (zc_Reckoner (a + 1) ++ ([(22, 4, zdf 22 4), (23, 4, zdf 23 4), (24, 4, zdf 24 4), (25, 4, zdf 25 4)] ++ (zc_Big 170 (a + 1006) ++ (zc_Big 170 (a + 1008) ++ (zc_Big 170 (a + 1010))))))) (by simp only [List.set_cons_zero, List.cons_append, List.nil_append, List.append_assoc]) rfl
  generalize zup (ν9) (a : Int) 8 ((a + 1010 : Nat) : Int) = μ9 at D9 ⊢
  refine s_Scales_init_94 (zE_bud (by omega) (by omega) (k_Scales_lp hd hQ 4 0 (by omega) _ (D9.to ?_ rfl)))
  rw [← zar_zero (t := 22) (L := 4) (c := a + 1012) (st := 8) (fun _ => Nat.le_of_ble_eq_true rfl), ← zar_zero (t := 23) (L := 4) (c := a + 1014) (st := 8) (fun _ => Nat.le_of_ble_eq_true rfl), ← zar_zero (t := 24) (L := 4) (c := a + 1016) (st := 8) (fun _ => Nat.le_of_ble_eq_true rfl), ← zar_zero (t := 25) (L := 4) (c := a + 1018) (st := 8) (fun _ => Nat.le_of_ble_eq_true rfl)]
  unfold zb_Scales zq_Scales
  show _ = _ ++ (_ ++ [])
  rw [List.append_nil]
  simp only [List.cons_append, List.nil_append]
end

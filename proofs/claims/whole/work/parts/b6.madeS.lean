/-! the constructors: SmokeRoom, SmokeRoomModel -/
theorem zc_Room_len (a : Nat) : (zc_Room a).length = 86 := by
  unfold zc_Room
  rw [List.length_append, List.length_append, zfla_len (k := 6) (fun _ => rfl), zfla_len (k := 7) (fun _ => rfl)]
  rfl
def zf_S (a : Nat) : Int → Int := zsu (zsu (zsu (zsu (zsu (zsu (zsu (zsu (zsu (zsu (zsu (zsu (zdf 10 0) 0 ((a + 1 : Nat) : Int)) 1 ((a + 87 : Nat) : Int)) 2 ((a + 88 : Nat) : Int)) 3 ((a + 89 : Nat) : Int)) 4 0) 5 ((a + 90 : Nat) : Int)) 6 (-1)) 7 ((a + 99 : Nat) : Int)) 8 ((a + 101 : Nat) : Int)) 9 ((a + 103 : Nat) : Int)) 10 0) 11 ((a + 104 : Nat) : Int)
def zg_S (a : Nat) : Int → Int := zsu (zsu (zf_S a) 12 ((a + 105 : Nat) : Int)) 13 ((a + 106 : Nat) : Int)
def zb_S (a : Nat) (f : Int → Int) : zCs := (10, 0, f) :: zc_Room (a + 1)
def zm_S (a : Nat) (g w : Int → Int) : zCs := [(19, 2, g), (14, 2, zdf 14 2), (12, 400, zdf 12 400)] ++ (zc_Reader (a + 90) ++ ([(9, 0, zsu (zsu (zdf 9 0) 0 0) 1 ((a + 99 + 1 : Nat) : Int)), (12, 5, w)] ++ (zc_World (a + 101) ++ [(12, 4, zdf 12 4)])))
theorem zb_S_len (a : Nat) (f : Int → Int) : (zb_S a f).length = 87 := by
  unfold zb_S
  rw [List.length_cons, zc_Room_len]
theorem zbm_S_len (a : Nat) (f g w : Int → Int) : (zb_S a f ++ zm_S a g w).length = 104 := by
  rw [List.length_append, zb_S_len]
  rfl
def zc_S (a : Nat) : zCs := zb_S a (zg_S a) ++ (zm_S a (zar (a + 1148) 86 2) (zfs9 (zdf 12 5) ((5 : Nat) : Int) (-1)) ++ (zc_Scales (a + 104) ++ zfla (fun s => zc_Room (a + (1148 + 86 * s))) 2))
section
variable {X : zX} {l : Launch} {d : Nat}
theorem k_S_lp {μ0 : zM} {a : Nat} {Q : zM → Prop} (hd : 10 ≤ d) (hQ : ∀ ν, zDe μ0 ν a 1320 (zc_S a) → Q ν) : ∀ k i : Nat, i + k = 2 → ∀ μ, zDe μ0 μ a (1148 + 86 * i) (zb_S a (zg_S a) ++ (zm_S a (zar (a + 1148) 86 i) (zdf 12 5) ++ (zc_Scales (a + 104) ++ zfla (fun s => zc_Room (a + (1148 + 86 * s))) i))) → zE X false l d (86 * (2 - i)) (3951 * (2 - i)) y_S_init 129 [some (12, 0, (a : Int)), some (0, 0, (i : Int))] [] μ (zrn Q) := by
  intro k
  induction k with
  | zero =>
    intro i hi μ D
    obtain rfl : i = 2 := by omega
    refine s_S_init_129 ⟨fun _ => s_S_init_153 (d1 := d - 1) (by omega) ?_, fun z => absurd (by decide) z⟩
    have e7 : μ (a : Int) 7 = ((a + 99 : Nat) : Int) := (D.gem (A := zb_S a (zg_S a)) (r := 0) (a : Int) 7 rfl rfl).trans rfl
    have e1 : μ ((a + 99 : Nat) : Int) 1 = ((a + 100 : Nat) : Int) := (D.ger (A := zb_S a (zg_S a)) (r := 12) ((a + 99 : Nat) : Int) 1 (zb_S_len a _) rfl rfl).trans rfl
    rw [e7, e1]
    refine ⟨by omega, by omega, k_fill (by decide) (hQ _ ((D.fir (A := zb_S a (zg_S a)) (r := 13) ((a + 100 : Nat) : Int) ((5 : Nat) : Int) (-1) (zb_S_len a _) rfl rfl).to rfl rfl))⟩
  | succ k ih =>
    intro i hi μ D
    refine s_S_init_129 ⟨fun z => absurd z (by omega), fun _ => s_S_init_134 (d1 := d - 1) (by omega) ?_⟩
    have e1 : μ (a : Int) 1 = ((a + 87 : Nat) : Int) := (D.gem (A := zb_S a (zg_S a)) (r := 0) (a : Int) 1 rfl rfl).trans rfl
    rw [e1, D.1, zw_of (show -2147483648 ≤ (i : Int) + 1 by omega) (by omega)]
    refine ⟨by omega, by omega, by omega, k_Room_init (((zDe.nil D.1).new (t := 5) (L := 0)).to rfl rfl) (by omega) (fun ν E => ⟨by omega, zE_bud (by omega) (by omega) (ih (i + 1) (by omega) _ ((D.subputr (A := zb_S a (zg_S a)) (r := 0) ((a + 87 : Nat) : Int) (i : Int) ((a + (1148 + 86 * i) : Nat) : Int) E (zb_S_len a _) rfl rfl).to ?_ (by omega)))⟩)⟩
    rw [zar_succ (c := a + 1148) (st := 86) (by congr 1; omega), zfla_succ (fun s => zc_Room (a + (1148 + 86 * s))) i]
    simp only [List.append_assoc]
    rfl
theorem k_S_init {μ0 μ : zM} {a : Nat} {Q : zM → Prop} (D0 : zDe μ0 μ a 1 [(10, 0, zdf 10 0)]) (hd : 10 ≤ d) (hQ : ∀ ν, zDe μ0 ν a 1320 (zc_S a) → Q ν) : zCv X false l d 1319 25102 y_S_init [(12, 0, (a : Int))] μ Q := by
  refine zC'_of (by decide +kernel) (Nat.le_of_ble_eq_true rfl) rfl ?_
  refine s_S_init_0 (by omega) ?_
  refine s_S_init_4 (d1 := d - 1) (by omega) ⟨by decide, by decide, ?_⟩
  rw [D0.1]
  refine k_Room_init (((zDe.nil D0.1).new (t := 5) (L := 0)).to rfl rfl) (by omega) (fun ν1 E1 => ?_)
  have D1 := ((D0.sub E1).pu (r := 0) (a : Int) 0 ((a + 1 : Nat) : Int) rfl rfl).to (n' := 87) (ds := [(10, 0, zsu (zdf 10 0) 0 ((a + 1 : Nat) : Int))] ++ (zc_Room (a + 1))) (by simp only [List.set_cons_zero, List.cons_append, List.nil_append, List.append_assoc]) rfl
  generalize zup (ν1) (a : Int) 0 ((a + 1 : Nat) : Int) = μ1 at D1 ⊢
  refine s_S_init_15 ⟨by omega, ?_⟩
  rw [D1.1]
  have D2 := ((D1.new (t := 19) (L := 2)).pu (r := 0) (a : Int) 1 ((a + 87 : Nat) : Int) rfl rfl).to (n' := 88) (ds := [(10, 0, zsu (zsu (zdf 10 0) 0 ((a + 1 : Nat) : Int)) 1 ((a + 87 : Nat) : Int))] ++ (zc_Room (a + 1) ++ ([(19, 2, zdf 19 2)]))) (by simp only [List.set_cons_zero, List.cons_append, List.nil_append, List.append_assoc]) rfl
  generalize zup (zal μ1 19 2) (a : Int) 1 ((a + 87 : Nat) : Int) = μ2 at D2 ⊢
  refine s_S_init_23 ⟨by omega, ?_⟩
  rw [D2.1]
  have D3 := ((D2.new (t := 14) (L := 2)).pu (r := 0) (a : Int) 2 ((a + 88 : Nat) : Int) rfl rfl).to (n' := 89) (ds := [(10, 0, zsu (zsu (zsu (zdf 10 0) 0 ((a + 1 : Nat) : Int)) 1 ((a + 87 : Nat) : Int)) 2 ((a + 88 : Nat) : Int))] ++ (zc_Room (a + 1) ++ ([(19, 2, zdf 19 2), (14, 2, zdf 14 2)]))) (by simp only [List.set_cons_zero, List.cons_append, List.nil_append, List.append_assoc]) rfl
  generalize zup (zal μ2 14 2) (a : Int) 2 ((a + 88 : Nat) : Int) = μ3 at D3 ⊢
  refine s_S_init_30 ⟨by omega, ?_⟩
  rw [D3.1]
  have D4 := ((D3.new (t := 12) (L := 400)).pu (r := 0) (a : Int) 3 ((a + 89 : Nat) : Int) rfl rfl).to (n' := 90) (ds := [(10, 0, zsu (zsu (zsu (zsu (zdf 10 0) 0 ((a + 1 : Nat) : Int)) 1 ((a + 87 : Nat) : Int)) 2 ((a + 88 : Nat) : Int)) 3 ((a + 89 : Nat) : Int))] ++ (zc_Room (a + 1) ++ ([(19, 2, zdf 19 2), (14, 2, zdf 14 2), (12, 400, zdf 12 400)]))) (by simp only [List.set_cons_zero, List.cons_append, List.nil_append, List.append_assoc]) rfl
  generalize zup (zal μ3 12 400) (a : Int) 3 ((a + 89 : Nat) : Int) = μ4 at D4 ⊢
  refine s_S_init_39 ?_
  have D5 := (D4.pu (r := 0) (a : Int) 4 0 rfl rfl).to (n' := 90) (ds := [(10, 0, zsu (zsu (zsu (zsu (zsu (zdf 10 0) 0 ((a + 1 : Nat) : Int)) 1 ((a + 87 : Nat) : Int)) 2 ((a + 88 : Nat) : Int)) 3 ((a + 89 : Nat) : Int)) 4 0)] ++ (zc_Room (a + 1) ++ ([(19, 2, zdf 19 2), (14, 2, zdf 14 2), (12, 400, zdf 12 400)]))) (by simp only [List.set_cons_zero, List.cons_append, List.nil_append, List.append_assoc]) rfl
  generalize zup (μ4) (a : Int) 4 0 = μ5 at D5 ⊢
  refine s_S_init_44 (d1 := d - 1) (by omega) ⟨by decide, by decide, ?_⟩
  rw [D5.1]
  refine k_Reader_init (((zDe.nil D5.1).new (t := 3) (L := 0)).to rfl rfl) (by omega) (fun ν6 E6 => ?_)
  have D6 := ((D5.sub E6).pu (r := 0) (a : Int) 5 ((a + 90 : Nat) : Int) rfl rfl).to (n' := 99) (ds := [(10, 0, zsu (zsu (zsu (zsu (zsu (zsu (zdf 10 0) 0 ((a + 1 : Nat) : Int)) 1 ((a + 87 : Nat) : Int)) 2 ((a + 88 : Nat) : Int)) 3 ((a + 89 : Nat) : Int)) 4 0) 5 ((a + 90 : Nat) : Int))] ++ (zc_Room (a + 1) ++ ([(19, 2, zdf 19 2), (14, 2, zdf 14 2), (12, 400, zdf 12 400)] ++ (zc_Reader (a + 90))))) (by simp only [List.set_cons_zero, List.cons_append, List.nil_append, List.append_assoc]) rfl
  generalize zup (ν6) (a : Int) 5 ((a + 90 : Nat) : Int) = μ6 at D6 ⊢
  refine s_S_init_55 ?_
  have D7 := (D6.pu (r := 0) (a : Int) 6 (-1) rfl rfl).to (n' := 99) (ds := [(10, 0, zsu (zsu (zsu (zsu (zsu (zsu (zsu (zdf 10 0) 0 ((a + 1 : Nat) : Int)) 1 ((a + 87 : Nat) : Int)) 2 ((a + 88 : Nat) : Int)) 3 ((a + 89 : Nat) : Int)) 4 0) 5 ((a + 90 : Nat) : Int)) 6 (-1))] ++ (zc_Room (a + 1) ++ ([(19, 2, zdf 19 2), (14, 2, zdf 14 2), (12, 400, zdf 12 400)] ++ (zc_Reader (a + 90))))) (by simp only [List.set_cons_zero, List.cons_append, List.nil_append, List.append_assoc]) rfl
  generalize zup (μ6) (a : Int) 6 (-1) = μ7 at D7 ⊢
  refine s_S_init_60 (d1 := d - 1) (by omega) ⟨by decide, by decide, ?_⟩
  rw [D7.1]
  refine k_World_init (((zDe.nil D7.1).new (t := 9) (L := 0)).to rfl rfl) (by omega) (fun ν8 E8 => ?_)
  have D8 := ((D7.sub E8).pu (r := 0) (a : Int) 7 ((a + 99 : Nat) : Int) rfl rfl).to (n' := 101) (ds := [(10, 0, zsu (zsu (zsu (zsu (zsu (zsu (zsu (zsu (zdf 10 0) 0 ((a + 1 : Nat) : Int)) 1 ((a + 87 : Nat) : Int)) 2 ((a + 88 : Nat) : Int)) 3 ((a + 89 : Nat) : Int)) 4 0) 5 ((a + 90 : Nat) : Int)) 6 (-1)) 7 ((a + 99 : Nat) : Int))] ++ (zc_Room (a + 1) ++ ([(19, 2, zdf 19 2), (14, 2, zdf 14 2), (12, 400, zdf 12 400)] ++ (zc_Reader (a + 90) ++ (zc_World (a + 99)))))) (by simp only [List.set_cons_zero, List.cons_append, List.nil_append, List.append_assoc]) rfl
  generalize zup (ν8) (a : Int) 7 ((a + 99 : Nat) : Int) = μ8 at D8 ⊢
  refine s_S_init_71 (d1 := d - 1) (by omega) ⟨by decide, by decide, ?_⟩
  rw [D8.1]
  refine k_World_init (((zDe.nil D8.1).new (t := 9) (L := 0)).to rfl rfl) (by omega) (fun ν9 E9 => ?_)
  have D9 := ((D8.sub E9).pu (r := 0) (a : Int) 8 ((a + 101 : Nat) : Int) rfl rfl).to (n' := 103) (ds := [(10, 0, zsu (zsu (zsu (zsu (zsu (zsu (zsu (zsu (zsu (zdf 10 0) 0 ((a + 1 : Nat) : Int)) 1 ((a + 87 : Nat) : Int)) 2 ((a + 88 : Nat) : Int)) 3 ((a + 89 : Nat) : Int)) 4 0) 5 ((a + 90 : Nat) : Int)) 6 (-1)) 7 ((a + 99 : Nat) : Int)) 8 ((a + 101 : Nat) : Int))] ++ (zc_Room (a + 1) ++ ([(19, 2, zdf 19 2), (14, 2, zdf 14 2), (12, 400, zdf 12 400)] ++ (zc_Reader (a + 90) ++ (zc_World (a + 99) ++ (zc_World (a + 101))))))) (by simp only [List.set_cons_zero, List.cons_append, List.nil_append, List.append_assoc]) rfl
  generalize zup (ν9) (a : Int) 8 ((a + 101 : Nat) : Int) = μ9 at D9 ⊢
  refine s_S_init_82 ⟨by omega, ?_⟩
  rw [D9.1]
  have D10 := ((D9.new (t := 12) (L := 4)).pu (r := 0) (a : Int) 9 ((a + 103 : Nat) : Int) rfl rfl).to (n' := 104) (ds := [(10, 0, zsu (zsu (zsu (zsu (zsu (zsu (zsu (zsu (zsu (zsu (zdf 10 0) 0 ((a + 1 : Nat) : Int)) 1 ((a + 87 : Nat) : Int)) 2 ((a + 88 : Nat) : Int)) 3 ((a + 89 : Nat) : Int)) 4 0) 5 ((a + 90 : Nat) : Int)) 6 (-1)) 7 ((a + 99 : Nat) : Int)) 8 ((a + 101 : Nat) : Int)) 9 ((a + 103 : Nat) : Int))] ++ (zc_Room (a + 1) ++ ([(19, 2, zdf 19 2), (14, 2, zdf 14 2), (12, 400, zdf 12 400)] ++ (zc_Reader (a + 90) ++ (zc_World (a + 99) ++ (zc_World (a + 101) ++ ([(12, 4, zdf 12 4)]))))))) (by simp only [List.set_cons_zero, List.cons_append, List.nil_append, List.append_assoc]) rfl
  generalize zup (zal μ9 12 4) (a : Int) 9 ((a + 103 : Nat) : Int) = μ10 at D10 ⊢
  refine s_S_init_89 ?_
  have D11 := (D10.pu (r := 0) (a : Int) 10 0 rfl rfl).to (n' := 104) (ds := [(10, 0, zsu (zsu (zsu (zsu (zsu (zsu (zsu (zsu (zsu (zsu (zsu (zdf 10 0) 0 ((a + 1 : Nat) : Int)) 1 ((a + 87 : Nat) : Int)) 2 ((a + 88 : Nat) : Int)) 3 ((a + 89 : Nat) : Int)) 4 0) 5 ((a + 90 : Nat) : Int)) 6 (-1)) 7 ((a + 99 : Nat) : Int)) 8 ((a + 101 : Nat) : Int)) 9 ((a + 103 : Nat) : Int)) 10 0)] ++ (zc_Room (a + 1) ++ ([(19, 2, zdf 19 2), (14, 2, zdf 14 2), (12, 400, zdf 12 400)] ++ (zc_Reader (a + 90) ++ (zc_World (a + 99) ++ (zc_World (a + 101) ++ ([(12, 4, zdf 12 4)]))))))) (by simp only [List.set_cons_zero, List.cons_append, List.nil_append, List.append_assoc]) rfl
  generalize zup (μ10) (a : Int) 10 0 = μ11 at D11 ⊢
  refine s_S_init_94 (d1 := d - 1) (by omega) ⟨by decide, by decide, ?_⟩
  rw [D11.1]
  refine k_Scales_init (((zDe.nil D11.1).new (t := 7) (L := 0)).to rfl rfl) (by omega) (fun ν12 E12 => ?_)
  have D12 := ((D11.sub E12).pu (r := 0) (a : Int) 11 ((a + 104 : Nat) : Int) rfl rfl).to (n' := 1148) (ds := [(10, 0, zsu (zsu (zsu (zsu (zsu (zsu (zsu (zsu (zsu (zsu (zsu (zsu (zdf 10 0) 0 ((a + 1 : Nat) : Int)) 1 ((a + 87 : Nat) : Int)) 2 ((a + 88 : Nat) : Int)) 3 ((a + 89 : Nat) : Int)) 4 0) 5 ((a + 90 : Nat) : Int)) 6 (-1)) 7 ((a + 99 : Nat) : Int)) 8 ((a + 101 : Nat) : Int)) 9 ((a + 103 : Nat) : Int)) 10 0) 11 ((a + 104 : Nat) : Int))] ++ (zc_Room (a + 1) ++ ([(19, 2, zdf 19 2), (14, 2, zdf 14 2), (12, 400, zdf 12 400)] ++ (zc_Reader (a + 90) ++ (zc_World (a + 99) ++ (zc_World (a + 101) ++ ([(12, 4, zdf 12 4)] ++ (zc_Scales (a + 104))))))))) (by simp only [List.set_cons_zero, List.cons_append, List.nil_append, List.append_assoc]) rfl
  generalize zup (ν12) (a : Int) 11 ((a + 104 : Nat) : Int) = μ12 at D12 ⊢
  have A0 := D12.to (ds := (zb_S a (zf_S a) ++ zm_S a (zdf 19 2) (zdf 12 5)) ++ zc_Scales (a + 104)) (by
    unfold zb_S zm_S zf_S zc_World
    simp only [List.cons_append, List.nil_append, List.append_assoc]) rfl
  have e11 : μ12 (a : Int) 11 = ((a + 104 : Nat) : Int) := (A0.ge (r := 0) (a : Int) 11 rfl rfl).trans rfl
  have e12 : μ12 ((a + 104 : Nat) : Int) 0 = ((a + 105 : Nat) : Int) := (A0.ger (r := 0) ((a + 104 : Nat) : Int) 0 (zbm_S_len a _ _ _) rfl rfl).trans rfl
  refine s_S_init_105 ?_
  rw [e11, e12]
  refine ⟨by omega, by omega, ?_⟩
  have A1 := (A0.pu (r := 0) (a : Int) 12 ((a + 105 : Nat) : Int) rfl rfl).to (ds := (zb_S a (zsu (zf_S a) 12 ((a + 105 : Nat) : Int)) ++ zm_S a (zdf 19 2) (zdf 12 5)) ++ zc_Scales (a + 104)) (by
    unfold zb_S
    simp only [List.cons_append, List.set_cons_zero]) rfl
  generalize zup μ12 (a : Int) 12 ((a + 105 : Nat) : Int) = τ1 at A1 ⊢
  have e13 : τ1 (a : Int) 12 = ((a + 105 : Nat) : Int) := (A1.ge (r := 0) (a : Int) 12 rfl rfl).trans rfl
  have e14 : τ1 ((a + 105 : Nat) : Int) 0 = ((a + 106 : Nat) : Int) := (A1.ger (r := 1) ((a + 105 : Nat) : Int) 0 (zbm_S_len a _ _ _) rfl rfl).trans rfl
  refine s_S_init_116 ?_
  rw [e13, e14]
  refine ⟨by omega, by omega, ?_⟩
  have A2 := (A1.pu (r := 0) (a : Int) 13 ((a + 106 : Nat) : Int) rfl rfl).to (ds := (zb_S a (zg_S a) ++ zm_S a (zdf 19 2) (zdf 12 5)) ++ zc_Scales (a + 104)) (by
    unfold zb_S zg_S
    simp only [List.cons_append, List.set_cons_zero]) rfl
  generalize zup τ1 (a : Int) 13 ((a + 106 : Nat) : Int) = τ2 at A2 ⊢
  refine s_S_init_127 (zE_bud (by omega) (by omega) (k_S_lp hd hQ 2 0 (by omega) _ (A2.to ?_ rfl)))
  rw [← zar_zero (t := 19) (L := 2) (c := a + 1148) (st := 86) (fun _ => Nat.le_of_ble_eq_true rfl)]
  show _ = _ ++ (_ ++ (_ ++ []))
  rw [List.append_nil, List.append_assoc]
end

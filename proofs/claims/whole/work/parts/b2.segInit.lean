/-! S_init -/
set_option maxRecDepth 20000 in
theorem s_S_init_0 {X : zX} {l : Launch} {d bc bs : Nat} {a0 : Int} {μ : zM} {Q : Option zV → zM → Prop} (hd1 : 1 ≤ d)
    (h : zE X false l d bc bs y_S_init 4 [some (12, 0, a0), none] [] μ Q) :
    zE X false l d bc bs y_S_init 0 [some (12, 0, a0), none] [] μ Q :=
  zE_aload_n (zTb t_S_init 0 rfl) rfl (zE_obj (zTb t_S_init 1 rfl) (zs1 25 rfl) (zs1 26 rfl) (zs1 27 rfl) (by omega) (by decide) (Nat.le_of_ble_eq_true rfl) (h))
set_option maxRecDepth 20000 in
theorem s_S_init_4 {X : zX} {l : Launch} {d d1 bc bs : Nat} {a0 : Int} {μ : zM} {Q : Option zV → zM → Prop} (hdd : d1 + 1 ≤ d)
    (h : ((1 ≤ bc ∧ 13 ≤ bs) ∧ ((85 ≤ bc - 1 ∧ 3938 ≤ bs - 13) ∧ zCv X false l d1 85 3938 y_Room_init [(7, 0, μ (-1) 0)] (zal μ 5 0) (fun ν1 => zE X false l d ((bc - 1) - 85) ((bs - 13) - 3938) y_S_init 15 [some (12, 0, a0), none] [] (zup ν1 a0 0 (μ (-1) 0)) Q)))) :
    zE X false l d bc bs y_S_init 4 [some (12, 0, a0), none] [] μ Q :=
  zE_aload_n (zTb t_S_init 2 rfl) rfl (zD_new (t := 5) (L := 0) h.1 (zTb t_S_init 3 rfl) (by decide) (by decide) (zs1 28 rfl) (zs1 29 rfl) li_Room (zE_dup (zTb t_S_init 4 rfl) (by simp) (zD_calli (as := []) (rest := [(7, 0, μ (-1) 0), (12, 0, a0)]) h.2.1 rfl (zTb t_S_init 5 rfl) lm_S_9 (by decide) rfl np_Room_init hdd (Nat.le_of_ble_eq_true rfl) (zCv_use (fun ν1 k2 => zG_putr (t' := 5) (L' := 0) rfl (zTb t_S_init 6 rfl) lf_10_10 rfl (Or.inl ⟨_, rfl⟩) (by decide) (fun q => by cases q) (Or.inr ⟨rfl, rfl, rfl, zs2 178 rfl⟩) (k2)) h.2.2))))
set_option maxRecDepth 20000 in
theorem s_S_init_15 {X : zX} {l : Launch} {d bc bs : Nat} {a0 : Int} {μ : zM} {Q : Option zV → zM → Prop}
    (h : ((1 ≤ bc ∧ 2 ≤ bs) ∧ zE X false l d (bc - 1) (bs - 2) y_S_init 23 [some (12, 0, a0), none] [] (zup (zal μ 19 2) a0 1 (μ (-1) 0)) Q)) :
    zE X false l d bc bs y_S_init 15 [some (12, 0, a0), none] [] μ Q :=
  zE_aload_n (zTb t_S_init 7 rfl) rfl (zE_iconst (zTb t_S_init 8 rfl) (by decide) (by decide) (zD_anew (t := 19) (t' := 5) (L := 2) h.1 (zTb t_S_init 9 rfl) (by decide) (by decide) rfl (Or.inr (Or.inr (Or.inl rfl))) (fun _ _ => Nat.le_of_ble_eq_true rfl) (zs1 28 rfl) rfl (by decide) (zG_putr (t' := 19) (L' := 2) rfl (zTb t_S_init 10 rfl) lf_10_16 rfl (Or.inr ⟨_, rfl⟩) (by decide) (fun q => by cases q) (Or.inr ⟨rfl, rfl, rfl, zs2 179 rfl⟩) (h.2))))
set_option maxRecDepth 20000 in
theorem s_S_init_23 {X : zX} {l : Launch} {d bc bs : Nat} {a0 : Int} {μ : zM} {Q : Option zV → zM → Prop}
    (h : ((1 ≤ bc ∧ 2 ≤ bs) ∧ zE X false l d (bc - 1) (bs - 2) y_S_init 30 [some (12, 0, a0), none] [] (zup (zal μ 14 2) a0 2 (μ (-1) 0)) Q)) :
    zE X false l d bc bs y_S_init 23 [some (12, 0, a0), none] [] μ Q :=
  zE_aload_n (zTb t_S_init 11 rfl) rfl (zE_iconst (zTb t_S_init 12 rfl) (by decide) (by decide) (zD_newa (t := 14) (L := 2) h.1 (zTb t_S_init 13 rfl) (Or.inr (Or.inr ⟨rfl, rfl⟩)) rfl (by decide) (zs1 157 rfl) (zG_putr (t' := 14) (L' := 2) rfl (zTb t_S_init 14 rfl) lf_10_20 rfl (Or.inr ⟨_, rfl⟩) (by decide) (fun q => by cases q) (Or.inr ⟨rfl, rfl, rfl, zs2 180 rfl⟩) (h.2))))
set_option maxRecDepth 20000 in
theorem s_S_init_30 {X : zX} {l : Launch} {d bc bs : Nat} {a0 : Int} {μ : zM} {Q : Option zV → zM → Prop}
    (h : ((1 ≤ bc ∧ 400 ≤ bs) ∧ zE X false l d (bc - 1) (bs - 400) y_S_init 39 [some (12, 0, a0), none] [] (zup (zal μ 12 400) a0 3 (μ (-1) 0)) Q)) :
    zE X false l d bc bs y_S_init 30 [some (12, 0, a0), none] [] μ Q :=
  zE_aload_n (zTb t_S_init 15 rfl) rfl (zE_sipush (zTb t_S_init 16 rfl) rfl (by decide) (by decide) (zD_newa (t := 12) (L := 400) h.1 (zTb t_S_init 17 rfl) (Or.inl ⟨rfl, rfl⟩) rfl (by decide) (zs1 72 rfl) (zG_putr (t' := 12) (L' := 400) rfl (zTb t_S_init 18 rfl) lf_10_24 rfl (Or.inr ⟨_, rfl⟩) (by decide) (fun q => by cases q) (Or.inr ⟨rfl, rfl, rfl, zs2 181 rfl⟩) (h.2))))
set_option maxRecDepth 20000 in
theorem s_S_init_39 {X : zX} {l : Launch} {d bc bs : Nat} {a0 : Int} {μ : zM} {Q : Option zV → zM → Prop}
    (h : zE X false l d bc bs y_S_init 44 [some (12, 0, a0), none] [] (zup μ a0 4 0) Q) :
    zE X false l d bc bs y_S_init 39 [some (12, 0, a0), none] [] μ Q :=
  zE_aload_n (zTb t_S_init 19 rfl) rfl (zE_iconst (zTb t_S_init 20 rfl) (by decide) (by decide) (zG_puti rfl (zTb t_S_init 21 rfl) lf_10_28 rfl rfl (fun q => by cases q) (Or.inl rfl) (h)))
set_option maxRecDepth 20000 in
theorem s_S_init_44 {X : zX} {l : Launch} {d d1 bc bs : Nat} {a0 : Int} {μ : zM} {Q : Option zV → zM → Prop} (hdd : d1 + 1 ≤ d)
    (h : ((1 ≤ bc ∧ 7 ≤ bs) ∧ ((8 ≤ bc - 1 ∧ 1256 ≤ bs - 7) ∧ zCv X false l d1 8 1256 y_Reader_init [(5, 0, μ (-1) 0)] (zal μ 3 0) (fun ν1 => zE X false l d ((bc - 1) - 8) ((bs - 7) - 1256) y_S_init 55 [some (12, 0, a0), none] [] (zup ν1 a0 5 (μ (-1) 0)) Q)))) :
    zE X false l d bc bs y_S_init 44 [some (12, 0, a0), none] [] μ Q :=
  zE_aload_n (zTb t_S_init 22 rfl) rfl (zD_new (t := 3) (L := 0) h.1 (zTb t_S_init 23 rfl) (by decide) (by decide) (zs1 224 rfl) (zs1 225 rfl) li_Reader (zE_dup (zTb t_S_init 24 rfl) (by simp) (zD_calli (as := []) (rest := [(5, 0, μ (-1) 0), (12, 0, a0)]) h.2.1 rfl (zTb t_S_init 25 rfl) lm_S_34 (by decide) rfl np_Reader_init hdd (Nat.le_of_ble_eq_true rfl) (zCv_use (fun ν1 k2 => zG_putr (t' := 3) (L' := 0) rfl (zTb t_S_init 26 rfl) lf_10_35 rfl (Or.inl ⟨_, rfl⟩) (by decide) (fun q => by cases q) (Or.inr ⟨rfl, rfl, rfl, zs2 183 rfl⟩) (k2)) h.2.2))))
set_option maxRecDepth 20000 in
theorem s_S_init_55 {X : zX} {l : Launch} {d bc bs : Nat} {a0 : Int} {μ : zM} {Q : Option zV → zM → Prop}
    (h : zE X false l d bc bs y_S_init 60 [some (12, 0, a0), none] [] (zup μ a0 6 ((-1))) Q) :
    zE X false l d bc bs y_S_init 55 [some (12, 0, a0), none] [] μ Q :=
  zE_aload_n (zTb t_S_init 27 rfl) rfl (zE_iconst (zTb t_S_init 28 rfl) (by decide) (by decide) (zG_puti rfl (zTb t_S_init 29 rfl) lf_10_39 rfl rfl (fun q => by cases q) (Or.inl rfl) (h)))
set_option maxRecDepth 20000 in
theorem s_S_init_60 {X : zX} {l : Launch} {d d1 bc bs : Nat} {a0 : Int} {μ : zM} {Q : Option zV → zM → Prop} (hdd : d1 + 1 ≤ d)
    (h : ((1 ≤ bc ∧ 2 ≤ bs) ∧ ((1 ≤ bc - 1 ∧ 5 ≤ bs - 2) ∧ zCv X false l d1 1 5 y_World_init [(11, 0, μ (-1) 0)] (zal μ 9 0) (fun ν1 => zE X false l d ((bc - 1) - 1) ((bs - 2) - 5) y_S_init 71 [some (12, 0, a0), none] [] (zup ν1 a0 7 (μ (-1) 0)) Q)))) :
    zE X false l d bc bs y_S_init 60 [some (12, 0, a0), none] [] μ Q :=
  zE_aload_n (zTb t_S_init 30 rfl) rfl (zD_new (t := 9) (L := 0) h.1 (zTb t_S_init 31 rfl) (by decide) (by decide) (zs2 15 rfl) (zs2 16 rfl) li_World (zE_dup (zTb t_S_init 32 rfl) (by simp) (zD_calli (as := []) (rest := [(11, 0, μ (-1) 0), (12, 0, a0)]) h.2.1 rfl (zTb t_S_init 33 rfl) lm_S_44 (by decide) rfl np_World_init hdd (Nat.le_of_ble_eq_true rfl) (zCv_use (fun ν1 k2 => zG_putr (t' := 9) (L' := 0) rfl (zTb t_S_init 34 rfl) lf_10_45 rfl (Or.inl ⟨_, rfl⟩) (by decide) (fun q => by cases q) (Or.inr ⟨rfl, rfl, rfl, zs2 185 rfl⟩) (k2)) h.2.2))))
set_option maxRecDepth 20000 in
theorem s_S_init_71 {X : zX} {l : Launch} {d d1 bc bs : Nat} {a0 : Int} {μ : zM} {Q : Option zV → zM → Prop} (hdd : d1 + 1 ≤ d)
    (h : ((1 ≤ bc ∧ 2 ≤ bs) ∧ ((1 ≤ bc - 1 ∧ 5 ≤ bs - 2) ∧ zCv X false l d1 1 5 y_World_init [(11, 0, μ (-1) 0)] (zal μ 9 0) (fun ν1 => zE X false l d ((bc - 1) - 1) ((bs - 2) - 5) y_S_init 82 [some (12, 0, a0), none] [] (zup ν1 a0 8 (μ (-1) 0)) Q)))) :
    zE X false l d bc bs y_S_init 71 [some (12, 0, a0), none] [] μ Q :=
  zE_aload_n (zTb t_S_init 35 rfl) rfl (zD_new (t := 9) (L := 0) h.1 (zTb t_S_init 36 rfl) (by decide) (by decide) (zs2 15 rfl) (zs2 16 rfl) li_World (zE_dup (zTb t_S_init 37 rfl) (by simp) (zD_calli (as := []) (rest := [(11, 0, μ (-1) 0), (12, 0, a0)]) h.2.1 rfl (zTb t_S_init 38 rfl) lm_S_44 (by decide) rfl np_World_init hdd (Nat.le_of_ble_eq_true rfl) (zCv_use (fun ν1 k2 => zG_putr (t' := 9) (L' := 0) rfl (zTb t_S_init 39 rfl) lf_10_49 rfl (Or.inl ⟨_, rfl⟩) (by decide) (fun q => by cases q) (Or.inr ⟨rfl, rfl, rfl, zs2 186 rfl⟩) (k2)) h.2.2))))
set_option maxRecDepth 20000 in
theorem s_S_init_82 {X : zX} {l : Launch} {d bc bs : Nat} {a0 : Int} {μ : zM} {Q : Option zV → zM → Prop}
    (h : ((1 ≤ bc ∧ 4 ≤ bs) ∧ zE X false l d (bc - 1) (bs - 4) y_S_init 89 [some (12, 0, a0), none] [] (zup (zal μ 12 4) a0 9 (μ (-1) 0)) Q)) :
    zE X false l d bc bs y_S_init 82 [some (12, 0, a0), none] [] μ Q :=
  zE_aload_n (zTb t_S_init 40 rfl) rfl (zE_iconst (zTb t_S_init 41 rfl) (by decide) (by decide) (zD_newa (t := 12) (L := 4) h.1 (zTb t_S_init 42 rfl) (Or.inl ⟨rfl, rfl⟩) rfl (by decide) (zs1 72 rfl) (zG_putr (t' := 12) (L' := 4) rfl (zTb t_S_init 43 rfl) lf_10_52 rfl (Or.inr ⟨_, rfl⟩) (by decide) (fun q => by cases q) (Or.inr ⟨rfl, rfl, rfl, zs2 187 rfl⟩) (h.2))))
set_option maxRecDepth 20000 in
theorem s_S_init_89 {X : zX} {l : Launch} {d bc bs : Nat} {a0 : Int} {μ : zM} {Q : Option zV → zM → Prop}
    (h : zE X false l d bc bs y_S_init 94 [some (12, 0, a0), none] [] (zup μ a0 10 0) Q) :
    zE X false l d bc bs y_S_init 89 [some (12, 0, a0), none] [] μ Q :=
  zE_aload_n (zTb t_S_init 44 rfl) rfl (zE_iconst (zTb t_S_init 45 rfl) (by decide) (by decide) (zG_puti rfl (zTb t_S_init 46 rfl) lf_10_55 rfl rfl (fun q => by cases q) (Or.inl rfl) (h)))
set_option maxRecDepth 20000 in
theorem s_S_init_94 {X : zX} {l : Launch} {d d1 bc bs : Nat} {a0 : Int} {μ : zM} {Q : Option zV → zM → Prop} (hdd : d1 + 1 ≤ d)
    (h : ((1 ≤ bc ∧ 9 ≤ bs) ∧ ((1043 ≤ bc - 1 ∧ 11555 ≤ bs - 9) ∧ zCv X false l d1 1043 11555 y_Scales_init [(9, 0, μ (-1) 0)] (zal μ 7 0) (fun ν1 => zE X false l d ((bc - 1) - 1043) ((bs - 9) - 11555) y_S_init 105 [some (12, 0, a0), none] [] (zup ν1 a0 11 (μ (-1) 0)) Q)))) :
    zE X false l d bc bs y_S_init 94 [some (12, 0, a0), none] [] μ Q :=
  zE_aload_n (zTb t_S_init 47 rfl) rfl (zD_new (t := 7) (L := 0) h.1 (zTb t_S_init 48 rfl) (by decide) (by decide) (zs2 30 rfl) (zs2 31 rfl) li_Scales (zE_dup (zTb t_S_init 49 rfl) (by simp) (zD_calli (as := []) (rest := [(9, 0, μ (-1) 0), (12, 0, a0)]) h.2.1 rfl (zTb t_S_init 50 rfl) lm_S_60 (by decide) rfl np_Scales_init hdd (Nat.le_of_ble_eq_true rfl) (zCv_use (fun ν1 k2 => zG_putr (t' := 7) (L' := 0) rfl (zTb t_S_init 51 rfl) lf_10_61 rfl (Or.inl ⟨_, rfl⟩) (by decide) (fun q => by cases q) (Or.inr ⟨rfl, rfl, rfl, zs2 189 rfl⟩) (k2)) h.2.2))))
set_option maxRecDepth 20000 in
theorem s_S_init_105 {X : zX} {l : Launch} {d bc bs : Nat} {a0 : Int} {μ : zM} {Q : Option zV → zM → Prop}
    (h : ((0 ≤ μ a0 11) ∧ ((0 ≤ μ (μ a0 11) 0) ∧ zE X false l d bc bs y_S_init 116 [some (12, 0, a0), none] [] (zup μ a0 12 (μ (μ a0 11) 0)) Q))) :
    zE X false l d bc bs y_S_init 105 [some (12, 0, a0), none] [] μ Q :=
  zE_aload_n (zTb t_S_init 52 rfl) rfl (zE_aload_n (zTb t_S_init 53 rfl) rfl (zG_getf rfl (zTb t_S_init 54 rfl) lf_10_61 rfl (zE_nn (t := 7) h.1 (zG_getf rfl (zTb t_S_init 55 rfl) lf_10_65 rfl (zE_nn (t := 4) h.2.1 (zG_putr (t' := 4) (L' := 0) rfl (zTb t_S_init 56 rfl) lf_10_69 rfl (Or.inl ⟨_, rfl⟩) (by decide) (fun q => by cases q) (Or.inr ⟨rfl, rfl, rfl, zs2 190 rfl⟩) (h.2.2)))))))
set_option maxRecDepth 20000 in
theorem s_S_init_116 {X : zX} {l : Launch} {d bc bs : Nat} {a0 : Int} {μ : zM} {Q : Option zV → zM → Prop}
    (h : ((0 ≤ μ a0 12) ∧ ((0 ≤ μ (μ a0 12) 0) ∧ zE X false l d bc bs y_S_init 127 [some (12, 0, a0), none] [] (zup μ a0 13 (μ (μ a0 12) 0)) Q))) :
    zE X false l d bc bs y_S_init 116 [some (12, 0, a0), none] [] μ Q :=
  zE_aload_n (zTb t_S_init 57 rfl) rfl (zE_aload_n (zTb t_S_init 58 rfl) rfl (zG_getf rfl (zTb t_S_init 59 rfl) lf_10_69 rfl (zE_nn (t := 4) h.1 (zG_getf rfl (zTb t_S_init 60 rfl) lf_10_70 rfl (zE_nn (t := 8) h.2.1 (zG_putr (t' := 8) (L' := 0) rfl (zTb t_S_init 61 rfl) lf_10_76 rfl (Or.inl ⟨_, rfl⟩) (by decide) (fun q => by cases q) (Or.inr ⟨rfl, rfl, rfl, zs2 191 rfl⟩) (h.2.2)))))))
set_option maxRecDepth 20000 in
theorem s_S_init_127 {X : zX} {l : Launch} {d bc bs : Nat} {a0 : Int} {μ : zM} {Q : Option zV → zM → Prop}
    (h : zE X false l d bc bs y_S_init 129 [some (12, 0, a0), some (0, 0, 0)] [] μ Q) :
    zE X false l d bc bs y_S_init 127 [some (12, 0, a0), none] [] μ Q :=
  zE_iconst (zTb t_S_init 62 rfl) (by decide) (by decide) (zE_istore_n (ls' := [some (12, 0, a0), some (0, 0, 0)]) (zTb t_S_init 63 rfl) rfl (by decide) (h))
set_option maxRecDepth 20000 in
theorem s_S_init_129 {X : zX} {l : Launch} {d bc bs : Nat} {a0 x1 : Int} {μ : zM} {Q : Option zV → zM → Prop}
    (h : ((2 ≤ x1 → zE X false l d bc bs y_S_init 153 [some (12, 0, a0), none] [] μ Q) ∧ (¬ 2 ≤ x1 → zE X false l d bc bs y_S_init 134 [some (12, 0, a0), some (0, 0, x1)] [] μ Q))) :
    zE X false l d bc bs y_S_init 129 [some (12, 0, a0), some (0, 0, x1)] [] μ Q :=
  zE_iload_n (zTb t_S_init 64 rfl) rfl (zE_iconst (zTb t_S_init 65 rfl) (by decide) (by decide) (zE_icmpge (zTb t_S_init 66 rfl) rfl (fun c1 => zE_mask [true, false] rfl ((h.1 c1))) (fun c1 => (h.2 c1))))
set_option maxRecDepth 20000 in
theorem s_S_init_134 {X : zX} {l : Launch} {d d1 bc bs : Nat} {a0 x1 : Int} {μ : zM} {Q : Option zV → zM → Prop} (hdd : d1 + 1 ≤ d)
    (h : ((0 ≤ μ a0 1) ∧ ((1 ≤ bc ∧ 13 ≤ bs) ∧ ((85 ≤ bc - 1 ∧ 3938 ≤ bs - 13) ∧ zCv X false l d1 85 3938 y_Room_init [(7, 0, μ (-1) 0)] (zal μ 5 0) (fun ν1 => (((0 : Int) ≤ x1 ∧ (x1 : Int) < 2) ∧ zE X false l d ((bc - 1) - 85) ((bs - 13) - 3938) y_S_init 129 [some (12, 0, a0), some (0, 0, zw (x1 + 1))] [] (zup ν1 (μ a0 1) x1 (μ (-1) 0)) Q)))))) :
    zE X false l d bc bs y_S_init 134 [some (12, 0, a0), some (0, 0, x1)] [] μ Q :=
  zE_aload_n (zTb t_S_init 67 rfl) rfl (zG_getf rfl (zTb t_S_init 68 rfl) lf_10_16 rfl (zE_nn (t := 19) h.1 (zE_iload_n (zTb t_S_init 69 rfl) rfl (zD_new (t := 5) (L := 0) h.2.1 (zTb t_S_init 70 rfl) (by decide) (by decide) (zs1 28 rfl) (zs1 29 rfl) li_Room (zE_dup (zTb t_S_init 71 rfl) (by simp) (zD_calli (as := []) (rest := [(7, 0, μ (-1) 0), (0, 0, x1), (21, 2, μ a0 1)]) h.2.2.1 rfl (zTb t_S_init 72 rfl) lm_S_9 (by decide) rfl np_Room_init hdd (Nat.le_of_ble_eq_true rfl) (zCv_use (fun ν1 k2 => zE_aast (t := 19) (t' := 5) (L' := 0) (zTb t_S_init 73 rfl) (by decide) (by decide) (fun _ => rfl) rfl (by decide) k2.1 (zE_iinc (ls' := [some (12, 0, a0), some (0, 0, zw (x1 + 1))]) (zTb t_S_init 74 rfl) rfl rfl (by decide) (zE_goto (zTb t_S_init 75 rfl) rfl (k2.2)))) h.2.2.2)))))))
set_option maxRecDepth 20000 in
theorem s_S_init_153 {X : zX} {l : Launch} {d d1 bc bs : Nat} {a0 : Int} {μ : zM} {Q : Option zV → zM → Prop} (hdd : d1 + 1 ≤ d)
    (h : ((0 ≤ μ a0 7) ∧ ((0 ≤ μ (μ a0 7) 1) ∧ (zCv X false l d1 0 0 y_Arrays_fill [(14, 5, μ (μ a0 7) 1), (0, 0, (-1))] μ (fun ν1 => Q none ν1))))) :
    zE X false l d bc bs y_S_init 153 [some (12, 0, a0), none] [] μ Q :=
  zE_aload_n (zTb t_S_init 76 rfl) rfl (zG_getf rfl (zTb t_S_init 77 rfl) lf_10_45 rfl (zE_nn (t := 9) h.1 (zG_getf rfl (zTb t_S_init 78 rfl) lf_10_77 rfl (zE_nn (t := 12) h.2.1 (zE_iconst (zTb t_S_init 79 rfl) (by decide) (by decide) (zD_calls (as := [(14, 5, μ (μ a0 7) 1), (0, 0, (-1))]) (rest := []) rfl (zTb t_S_init 80 rfl) lm_S_80 np_Arrays_fill hdd (Nat.le_of_ble_eq_true rfl) (zCv_use (fun ν1 k2 => zE_ret (zTb t_S_init 81 rfl) rfl k2) h.2.2)))))))
/-! Room_init -/
set_option maxRecDepth 20000 in
theorem s_Room_init_0 {X : zX} {l : Launch} {d bc bs : Nat} {a0 : Int} {μ : zM} {Q : Option zV → zM → Prop} (hd1 : 1 ≤ d)
    (h : zE X false l d bc bs y_Room_init 4 [some (7, 0, a0), none] [] μ Q) :
    zE X false l d bc bs y_Room_init 0 [some (7, 0, a0), none] [] μ Q :=
  zE_aload_n (zTb t_Room_init 0 rfl) rfl (zE_obj (zTb t_Room_init 1 rfl) (zs1 33 rfl) (zs1 26 rfl) (zs1 27 rfl) (by omega) (by decide) (Nat.le_of_ble_eq_true rfl) (h))
set_option maxRecDepth 20000 in
theorem s_Room_init_4 {X : zX} {l : Launch} {d bc bs : Nat} {a0 : Int} {μ : zM} {Q : Option zV → zM → Prop}
    (h : zE X false l d bc bs y_Room_init 9 [some (7, 0, a0), none] [] (zup μ a0 0 0) Q) :
    zE X false l d bc bs y_Room_init 4 [some (7, 0, a0), none] [] μ Q :=
  zE_aload_n (zTb t_Room_init 2 rfl) rfl (zE_iconst (zTb t_Room_init 3 rfl) (by decide) (by decide) (zG_puti rfl (zTb t_Room_init 4 rfl) lf_5_9 rfl rfl (fun q => by cases q) (Or.inl rfl) (h)))
set_option maxRecDepth 20000 in
theorem s_Room_init_9 {X : zX} {l : Launch} {d bc bs : Nat} {a0 : Int} {μ : zM} {Q : Option zV → zM → Prop}
    (h : ((1 ≤ bc ∧ 6 ≤ bs) ∧ zE X false l d (bc - 1) (bs - 6) y_Room_init 18 [some (7, 0, a0), none] [] (zup (zal μ 16 6) a0 1 (μ (-1) 0)) Q)) :
    zE X false l d bc bs y_Room_init 9 [some (7, 0, a0), none] [] μ Q :=
  zE_aload_n (zTb t_Room_init 5 rfl) rfl (zE_bipush (zTb t_Room_init 6 rfl) rfl (by decide) (by decide) (zD_anew (t := 16) (t' := 2) (L := 6) h.1 (zTb t_Room_init 7 rfl) (by decide) (by decide) rfl (Or.inl rfl) (fun _ _ => Nat.le_of_ble_eq_true rfl) (zs1 34 rfl) rfl (by decide) (zG_putr (t' := 16) (L' := 6) rfl (zTb t_Room_init 8 rfl) lf_5_17 rfl (Or.inr ⟨_, rfl⟩) (by decide) (fun q => by cases q) (Or.inr ⟨rfl, rfl, rfl, zs1 163 rfl⟩) (h.2))))
set_option maxRecDepth 20000 in
theorem s_Room_init_18 {X : zX} {l : Launch} {d bc bs : Nat} {a0 : Int} {μ : zM} {Q : Option zV → zM → Prop}
    (h : ((4 ≤ bc ∧ 18 ≤ bs) ∧ zE X false l d (bc - 4) (bs - 18) y_Room_init 28 [some (7, 0, a0), none] [] (zup (zmu μ) a0 2 (μ (-1) 0)) Q)) :
    zE X false l d bc bs y_Room_init 18 [some (7, 0, a0), none] [] μ Q :=
  zE_aload_n (zTb t_Room_init 9 rfl) rfl (zE_iconst (zTb t_Room_init 10 rfl) (by decide) (by decide) (zE_iconst (zTb t_Room_init 11 rfl) (by decide) (by decide) (zD_multi h.1 (zTb t_Room_init 12 rfl) (zs1 36 rfl) (zs1 72 rfl) (zG_putr (t' := 18) (L' := 3) rfl (zTb t_Room_init 13 rfl) lf_5_23 rfl (Or.inr ⟨_, rfl⟩) (by decide) (fun q => by cases q) (Or.inr ⟨rfl, rfl, rfl, zs1 166 rfl⟩) (h.2)))))
set_option maxRecDepth 20000 in
theorem s_Room_init_28 {X : zX} {l : Launch} {d bc bs : Nat} {a0 : Int} {μ : zM} {Q : Option zV → zM → Prop}
    (h : ((1 ≤ bc ∧ 5 ≤ bs) ∧ zE X false l d (bc - 1) (bs - 5) y_Room_init 35 [some (7, 0, a0), none] [] (zup (zal μ 12 5) a0 3 (μ (-1) 0)) Q)) :
    zE X false l d bc bs y_Room_init 28 [some (7, 0, a0), none] [] μ Q :=
  zE_aload_n (zTb t_Room_init 14 rfl) rfl (zE_iconst (zTb t_Room_init 15 rfl) (by decide) (by decide) (zD_newa (t := 12) (L := 5) h.1 (zTb t_Room_init 16 rfl) (Or.inl ⟨rfl, rfl⟩) rfl (by decide) (zs1 72 rfl) (zG_putr (t' := 12) (L' := 5) rfl (zTb t_Room_init 17 rfl) lf_5_26 rfl (Or.inr ⟨_, rfl⟩) (by decide) (fun q => by cases q) (Or.inr ⟨rfl, rfl, rfl, zs1 169 rfl⟩) (h.2))))
set_option maxRecDepth 20000 in
theorem s_Room_init_35 {X : zX} {l : Launch} {d bc bs : Nat} {a0 : Int} {μ : zM} {Q : Option zV → zM → Prop}
    (h : zE X false l d bc bs y_Room_init 41 [some (7, 0, a0), none] [] (zup μ a0 4 6) Q) :
    zE X false l d bc bs y_Room_init 35 [some (7, 0, a0), none] [] μ Q :=
  zE_aload_n (zTb t_Room_init 18 rfl) rfl (zE_bipush (zTb t_Room_init 19 rfl) rfl (by decide) (by decide) (zG_puti rfl (zTb t_Room_init 20 rfl) lf_5_30 rfl rfl (fun q => by cases q) (Or.inl rfl) (h)))
set_option maxRecDepth 20000 in
theorem s_Room_init_41 {X : zX} {l : Launch} {d bc bs : Nat} {a0 : Int} {μ : zM} {Q : Option zV → zM → Prop}
    (h : ((1 ≤ bc ∧ 12 ≤ bs) ∧ zE X false l d (bc - 1) (bs - 12) y_Room_init 49 [some (7, 0, a0), none] [] (zup (zal μ 12 12) a0 5 (μ (-1) 0)) Q)) :
    zE X false l d bc bs y_Room_init 41 [some (7, 0, a0), none] [] μ Q :=
  zE_aload_n (zTb t_Room_init 21 rfl) rfl (zE_bipush (zTb t_Room_init 22 rfl) rfl (by decide) (by decide) (zD_newa (t := 12) (L := 12) h.1 (zTb t_Room_init 23 rfl) (Or.inl ⟨rfl, rfl⟩) rfl (by decide) (zs1 72 rfl) (zG_putr (t' := 12) (L' := 12) rfl (zTb t_Room_init 24 rfl) lf_5_33 rfl (Or.inr ⟨_, rfl⟩) (by decide) (fun q => by cases q) (Or.inr ⟨rfl, rfl, rfl, zs1 175 rfl⟩) (h.2))))
set_option maxRecDepth 20000 in
theorem s_Room_init_49 {X : zX} {l : Launch} {d bc bs : Nat} {a0 : Int} {μ : zM} {Q : Option zV → zM → Prop}
    (h : ((1 ≤ bc ∧ 4 ≤ bs) ∧ zE X false l d (bc - 1) (bs - 4) y_Room_init 57 [some (7, 0, a0), none] [] (zup (zal μ 17 4) a0 6 (μ (-1) 0)) Q)) :
    zE X false l d bc bs y_Room_init 49 [some (7, 0, a0), none] [] μ Q :=
  zE_aload_n (zTb t_Room_init 25 rfl) rfl (zE_iconst (zTb t_Room_init 26 rfl) (by decide) (by decide) (zD_anew (t := 17) (t' := 1) (L := 4) h.1 (zTb t_Room_init 27 rfl) (by decide) (by decide) rfl (Or.inr (Or.inl rfl)) (fun _ _ => Nat.le_of_ble_eq_true rfl) (zs1 38 rfl) rfl (by decide) (zG_putr (t' := 17) (L' := 4) rfl (zTb t_Room_init 28 rfl) lf_5_38 rfl (Or.inr ⟨_, rfl⟩) (by decide) (fun q => by cases q) (Or.inr ⟨rfl, rfl, rfl, zs1 178 rfl⟩) (h.2))))
set_option maxRecDepth 20000 in
theorem s_Room_init_57 {X : zX} {l : Launch} {d bc bs : Nat} {a0 : Int} {μ : zM} {Q : Option zV → zM → Prop}
    (h : zE X false l d bc bs y_Room_init 62 [some (7, 0, a0), none] [] (zup μ a0 7 0) Q) :
    zE X false l d bc bs y_Room_init 57 [some (7, 0, a0), none] [] μ Q :=
  zE_aload_n (zTb t_Room_init 29 rfl) rfl (zE_iconst (zTb t_Room_init 30 rfl) (by decide) (by decide) (zG_puti rfl (zTb t_Room_init 31 rfl) lf_5_42 rfl rfl (fun q => by cases q) (Or.inl rfl) (h)))
set_option maxRecDepth 20000 in
theorem s_Room_init_62 {X : zX} {l : Launch} {d bc bs : Nat} {a0 : Int} {μ : zM} {Q : Option zV → zM → Prop}
    (h : ((1 ≤ bc ∧ 4 ≤ bs) ∧ zE X false l d (bc - 1) (bs - 4) y_Room_init 69 [some (7, 0, a0), none] [] (zup (zal μ 12 4) a0 8 (μ (-1) 0)) Q)) :
    zE X false l d bc bs y_Room_init 62 [some (7, 0, a0), none] [] μ Q :=
  zE_aload_n (zTb t_Room_init 32 rfl) rfl (zE_iconst (zTb t_Room_init 33 rfl) (by decide) (by decide) (zD_newa (t := 12) (L := 4) h.1 (zTb t_Room_init 34 rfl) (Or.inl ⟨rfl, rfl⟩) rfl (by decide) (zs1 72 rfl) (zG_putr (t' := 12) (L' := 4) rfl (zTb t_Room_init 35 rfl) lf_5_45 rfl (Or.inr ⟨_, rfl⟩) (by decide) (fun q => by cases q) (Or.inr ⟨rfl, rfl, rfl, zs1 184 rfl⟩) (h.2))))
set_option maxRecDepth 20000 in
theorem s_Room_init_69 {X : zX} {l : Launch} {d bc bs : Nat} {a0 : Int} {μ : zM} {Q : Option zV → zM → Prop}
    (h : zE X false l d bc bs y_Room_init 74 [some (7, 0, a0), none] [] (zup μ a0 9 ((-1))) Q) :
    zE X false l d bc bs y_Room_init 69 [some (7, 0, a0), none] [] μ Q :=
  zE_aload_n (zTb t_Room_init 36 rfl) rfl (zE_iconst (zTb t_Room_init 37 rfl) (by decide) (by decide) (zG_puti rfl (zTb t_Room_init 38 rfl) lf_5_48 rfl rfl (fun q => by cases q) (Or.inl rfl) (h)))
set_option maxRecDepth 20000 in
theorem s_Room_init_74 {X : zX} {l : Launch} {d d1 bc bs : Nat} {a0 : Int} {μ : zM} {Q : Option zV → zM → Prop} (hdd : d1 + 1 ≤ d)
    (h : ((1 ≤ bc ∧ 5 ≤ bs) ∧ ((3 ≤ bc - 1 ∧ 24 ≤ bs - 5) ∧ zCv X false l d1 3 24 y_Rows_init [(8, 8, μ (-1) 0), (0, 0, 8)] (zal μ 6 8) (fun ν1 => zE X false l d ((bc - 1) - 3) ((bs - 5) - 24) y_Room_init 87 [some (7, 0, a0), none] [] (zup ν1 a0 10 (μ (-1) 0)) Q)))) :
    zE X false l d bc bs y_Room_init 74 [some (7, 0, a0), none] [] μ Q :=
  zE_aload_n (zTb t_Room_init 39 rfl) rfl (zD_new (t := 6) (L := 8) h.1 (zTb t_Room_init 40 rfl) (by decide) (by decide) (zs1 40 rfl) (zs1 41 rfl) li_Rows (zE_dup (zTb t_Room_init 41 rfl) (by simp) (zE_bipush (zTb t_Room_init 42 rfl) rfl (by decide) (by decide) (zD_calli (as := [(0, 0, 8)]) (rest := [(8, 8, μ (-1) 0), (7, 0, a0)]) h.2.1 rfl (zTb t_Room_init 43 rfl) lm_Room_53 (by decide) rfl np_Rows_init hdd (Nat.le_of_ble_eq_true rfl) (zCv_use (fun ν1 k2 => zG_putr (t' := 6) (L' := 8) rfl (zTb t_Room_init 44 rfl) lf_5_56 rfl (Or.inl ⟨_, rfl⟩) (by decide) (fun q => by cases q) (Or.inr ⟨rfl, rfl, rfl, zs1 189 rfl⟩) (k2)) h.2.2)))))
set_option maxRecDepth 20000 in
theorem s_Room_init_87 {X : zX} {l : Launch} {d d1 bc bs : Nat} {a0 : Int} {μ : zM} {Q : Option zV → zM → Prop} (hdd : d1 + 1 ≤ d)
    (h : ((1 ≤ bc ∧ 5 ≤ bs) ∧ ((3 ≤ bc - 1 ∧ 120 ≤ bs - 5) ∧ zCv X false l d1 3 120 y_Rows_init [(8, 40, μ (-1) 0), (0, 0, 40)] (zal μ 6 40) (fun ν1 => zE X false l d ((bc - 1) - 3) ((bs - 5) - 120) y_Room_init 100 [some (7, 0, a0), none] [] (zup ν1 a0 11 (μ (-1) 0)) Q)))) :
    zE X false l d bc bs y_Room_init 87 [some (7, 0, a0), none] [] μ Q :=
  zE_aload_n (zTb t_Room_init 45 rfl) rfl (zD_new (t := 6) (L := 40) h.1 (zTb t_Room_init 46 rfl) (by decide) (by decide) (zs1 40 rfl) (zs1 41 rfl) li_Rows (zE_dup (zTb t_Room_init 47 rfl) (by simp) (zE_bipush (zTb t_Room_init 48 rfl) rfl (by decide) (by decide) (zD_calli (as := [(0, 0, 40)]) (rest := [(8, 40, μ (-1) 0), (7, 0, a0)]) h.2.1 rfl (zTb t_Room_init 49 rfl) lm_Room_53 (by decide) rfl np_Rows_init hdd (Nat.le_of_ble_eq_true rfl) (zCv_use (fun ν1 k2 => zG_putr (t' := 6) (L' := 40) rfl (zTb t_Room_init 50 rfl) lf_5_60 rfl (Or.inl ⟨_, rfl⟩) (by decide) (fun q => by cases q) (Or.inr ⟨rfl, rfl, rfl, zs1 192 rfl⟩) (k2)) h.2.2)))))
set_option maxRecDepth 20000 in
theorem s_Room_init_100 {X : zX} {l : Launch} {d d1 bc bs : Nat} {a0 : Int} {μ : zM} {Q : Option zV → zM → Prop} (hdd : d1 + 1 ≤ d)
    (h : ((1 ≤ bc ∧ 5 ≤ bs) ∧ ((3 ≤ bc - 1 ∧ 120 ≤ bs - 5) ∧ zCv X false l d1 3 120 y_Rows_init [(8, 40, μ (-1) 0), (0, 0, 40)] (zal μ 6 40) (fun ν1 => zE X false l d ((bc - 1) - 3) ((bs - 5) - 120) y_Room_init 113 [some (7, 0, a0), none] [] (zup ν1 a0 12 (μ (-1) 0)) Q)))) :
    zE X false l d bc bs y_Room_init 100 [some (7, 0, a0), none] [] μ Q :=
  zE_aload_n (zTb t_Room_init 51 rfl) rfl (zD_new (t := 6) (L := 40) h.1 (zTb t_Room_init 52 rfl) (by decide) (by decide) (zs1 40 rfl) (zs1 41 rfl) li_Rows (zE_dup (zTb t_Room_init 53 rfl) (by simp) (zE_bipush (zTb t_Room_init 54 rfl) rfl (by decide) (by decide) (zD_calli (as := [(0, 0, 40)]) (rest := [(8, 40, μ (-1) 0), (7, 0, a0)]) h.2.1 rfl (zTb t_Room_init 55 rfl) lm_Room_53 (by decide) rfl np_Rows_init hdd (Nat.le_of_ble_eq_true rfl) (zCv_use (fun ν1 k2 => zG_putr (t' := 6) (L' := 40) rfl (zTb t_Room_init 56 rfl) lf_5_63 rfl (Or.inl ⟨_, rfl⟩) (by decide) (fun q => by cases q) (Or.inr ⟨rfl, rfl, rfl, zs1 194 rfl⟩) (k2)) h.2.2)))))
set_option maxRecDepth 20000 in
theorem s_Room_init_113 {X : zX} {l : Launch} {d bc bs : Nat} {a0 : Int} {μ : zM} {Q : Option zV → zM → Prop}
    (h : zE X false l d bc bs y_Room_init 115 [some (7, 0, a0), some (0, 0, 0)] [] μ Q) :
    zE X false l d bc bs y_Room_init 113 [some (7, 0, a0), none] [] μ Q :=
  zE_iconst (zTb t_Room_init 57 rfl) (by decide) (by decide) (zE_istore_n (ls' := [some (7, 0, a0), some (0, 0, 0)]) (zTb t_Room_init 58 rfl) rfl (by decide) (h))
set_option maxRecDepth 20000 in
theorem s_Room_init_115 {X : zX} {l : Launch} {d bc bs : Nat} {a0 x1 : Int} {μ : zM} {Q : Option zV → zM → Prop}
    (h : ((6 ≤ x1 → zE X false l d bc bs y_Room_init 140 [some (7, 0, a0), none] [] μ Q) ∧ (¬ 6 ≤ x1 → zE X false l d bc bs y_Room_init 121 [some (7, 0, a0), some (0, 0, x1)] [] μ Q))) :
    zE X false l d bc bs y_Room_init 115 [some (7, 0, a0), some (0, 0, x1)] [] μ Q :=
  zE_iload_n (zTb t_Room_init 59 rfl) rfl (zE_bipush (zTb t_Room_init 60 rfl) rfl (by decide) (by decide) (zE_icmpge (zTb t_Room_init 61 rfl) rfl (fun c1 => zE_mask [true, false] rfl ((h.1 c1))) (fun c1 => (h.2 c1))))
set_option maxRecDepth 20000 in
theorem s_Room_init_121 {X : zX} {l : Launch} {d d1 bc bs : Nat} {a0 x1 : Int} {μ : zM} {Q : Option zV → zM → Prop} (hdd : d1 + 1 ≤ d)
    (h : ((0 ≤ μ a0 1) ∧ ((1 ≤ bc ∧ 6 ≤ bs) ∧ ((5 ≤ bc - 1 ∧ 25 ≤ bs - 6) ∧ zCv X false l d1 5 25 y_Plan_init [(4, 0, μ (-1) 0)] (zal μ 2 0) (fun ν1 => (((0 : Int) ≤ x1 ∧ (x1 : Int) < 6) ∧ zE X false l d ((bc - 1) - 5) ((bs - 6) - 25) y_Room_init 115 [some (7, 0, a0), some (0, 0, zw (x1 + 1))] [] (zup ν1 (μ a0 1) x1 (μ (-1) 0)) Q)))))) :
    zE X false l d bc bs y_Room_init 121 [some (7, 0, a0), some (0, 0, x1)] [] μ Q :=
  zE_aload_n (zTb t_Room_init 62 rfl) rfl (zG_getf rfl (zTb t_Room_init 63 rfl) lf_5_17 rfl (zE_nn (t := 16) h.1 (zE_iload_n (zTb t_Room_init 64 rfl) rfl (zD_new (t := 2) (L := 0) h.2.1 (zTb t_Room_init 65 rfl) (by decide) (by decide) (zs1 34 rfl) (zs1 73 rfl) li_Plan (zE_dup (zTb t_Room_init 66 rfl) (by simp) (zD_calli (as := []) (rest := [(4, 0, μ (-1) 0), (0, 0, x1), (18, 6, μ a0 1)]) h.2.2.1 rfl (zTb t_Room_init 67 rfl) lm_Room_66 (by decide) rfl np_Plan_init hdd (Nat.le_of_ble_eq_true rfl) (zCv_use (fun ν1 k2 => zE_aast (t := 16) (t' := 2) (L' := 0) (zTb t_Room_init 68 rfl) (by decide) (by decide) (fun _ => rfl) rfl (by decide) k2.1 (zE_iinc (ls' := [some (7, 0, a0), some (0, 0, zw (x1 + 1))]) (zTb t_Room_init 69 rfl) rfl rfl (by decide) (zE_goto (zTb t_Room_init 70 rfl) rfl (k2.2)))) h.2.2.2)))))))
set_option maxRecDepth 20000 in
theorem s_Room_init_140 {X : zX} {l : Launch} {d bc bs : Nat} {a0 : Int} {μ : zM} {Q : Option zV → zM → Prop}
    (h : zE X false l d bc bs y_Room_init 142 [some (7, 0, a0), some (0, 0, 0)] [] μ Q) :
    zE X false l d bc bs y_Room_init 140 [some (7, 0, a0), none] [] μ Q :=
  zE_iconst (zTb t_Room_init 71 rfl) (by decide) (by decide) (zE_istore_n (ls' := [some (7, 0, a0), some (0, 0, 0)]) (zTb t_Room_init 72 rfl) rfl (by decide) (h))
set_option maxRecDepth 20000 in
theorem s_Room_init_142 {X : zX} {l : Launch} {d bc bs : Nat} {a0 x1 : Int} {μ : zM} {Q : Option zV → zM → Prop}
    (h : ((4 ≤ x1 → zE X false l d bc bs y_Room_init 166 [some (7, 0, a0), none] [] μ Q) ∧ (¬ 4 ≤ x1 → zE X false l d bc bs y_Room_init 147 [some (7, 0, a0), some (0, 0, x1)] [] μ Q))) :
    zE X false l d bc bs y_Room_init 142 [some (7, 0, a0), some (0, 0, x1)] [] μ Q :=
  zE_iload_n (zTb t_Room_init 73 rfl) rfl (zE_iconst (zTb t_Room_init 74 rfl) (by decide) (by decide) (zE_icmpge (zTb t_Room_init 75 rfl) rfl (fun c1 => zE_mask [true, false] rfl ((h.1 c1))) (fun c1 => (h.2 c1))))
set_option maxRecDepth 20000 in
theorem s_Room_init_147 {X : zX} {l : Launch} {d d1 bc bs : Nat} {a0 x1 : Int} {μ : zM} {Q : Option zV → zM → Prop} (hdd : d1 + 1 ≤ d)
    (h : ((0 ≤ μ a0 6) ∧ ((1 ≤ bc ∧ 8 ≤ bs) ∧ ((6 ≤ bc - 1 ∧ 848 ≤ bs - 8) ∧ zCv X false l d1 6 848 y_Law_init [(3, 0, μ (-1) 0)] (zal μ 1 0) (fun ν1 => (((0 : Int) ≤ x1 ∧ (x1 : Int) < 4) ∧ zE X false l d ((bc - 1) - 6) ((bs - 8) - 848) y_Room_init 142 [some (7, 0, a0), some (0, 0, zw (x1 + 1))] [] (zup ν1 (μ a0 6) x1 (μ (-1) 0)) Q)))))) :
    zE X false l d bc bs y_Room_init 147 [some (7, 0, a0), some (0, 0, x1)] [] μ Q :=
  zE_aload_n (zTb t_Room_init 76 rfl) rfl (zG_getf rfl (zTb t_Room_init 77 rfl) lf_5_38 rfl (zE_nn (t := 17) h.1 (zE_iload_n (zTb t_Room_init 78 rfl) rfl (zD_new (t := 1) (L := 0) h.2.1 (zTb t_Room_init 79 rfl) (by decide) (by decide) (zs1 38 rfl) (zs1 114 rfl) li_Law (zE_dup (zTb t_Room_init 80 rfl) (by simp) (zD_calli (as := []) (rest := [(3, 0, μ (-1) 0), (0, 0, x1), (19, 4, μ a0 6)]) h.2.2.1 rfl (zTb t_Room_init 81 rfl) lm_Room_67 (by decide) rfl np_Law_init hdd (Nat.le_of_ble_eq_true rfl) (zCv_use (fun ν1 k2 => zE_aast (t := 17) (t' := 1) (L' := 0) (zTb t_Room_init 82 rfl) (by decide) (by decide) (fun _ => rfl) rfl (by decide) k2.1 (zE_iinc (ls' := [some (7, 0, a0), some (0, 0, zw (x1 + 1))]) (zTb t_Room_init 83 rfl) rfl rfl (by decide) (zE_goto (zTb t_Room_init 84 rfl) rfl (k2.2)))) h.2.2.2)))))))
set_option maxRecDepth 20000 in
theorem s_Room_init_166 {X : zX} {l : Launch} {d bc bs : Nat} {a0 : Int} {μ : zM} {Q : Option zV → zM → Prop}
    (h : zE X false l d bc bs y_Room_init 168 [some (7, 0, a0), some (0, 0, 0)] [] μ Q) :
    zE X false l d bc bs y_Room_init 166 [some (7, 0, a0), none] [] μ Q :=
  zE_iconst (zTb t_Room_init 85 rfl) (by decide) (by decide) (zE_istore_n (ls' := [some (7, 0, a0), some (0, 0, 0)]) (zTb t_Room_init 86 rfl) rfl (by decide) (h))
set_option maxRecDepth 20000 in
theorem s_Room_init_168 {X : zX} {l : Launch} {d bc bs : Nat} {a0 x1 : Int} {μ : zM} {Q : Option zV → zM → Prop}
    (h : ((12 ≤ x1 → Q none μ) ∧ (¬ 12 ≤ x1 → zE X false l d bc bs y_Room_init 174 [some (7, 0, a0), some (0, 0, x1)] [] μ Q))) :
    zE X false l d bc bs y_Room_init 168 [some (7, 0, a0), some (0, 0, x1)] [] μ Q :=
  zE_iload_n (zTb t_Room_init 87 rfl) rfl (zE_bipush (zTb t_Room_init 88 rfl) rfl (by decide) (by decide) (zE_icmpge (zTb t_Room_init 89 rfl) rfl (fun c1 => zE_ret (zTb t_Room_init 103 rfl) rfl (h.1 c1)) (fun c1 => (h.2 c1))))
set_option maxRecDepth 20000 in
theorem s_Room_init_174 {X : zX} {l : Launch} {d bc bs : Nat} {a0 x1 : Int} {μ : zM} {Q : Option zV → zM → Prop} (hd1 : 1 ≤ d)
    (h : ((0 ≤ μ a0 5) ∧ (((0 : Int) ≤ x1 ∧ (x1 : Int) < 12) ∧ zE X false l d bc bs y_Room_init 168 [some (7, 0, a0), some (0, 0, zw (x1 + 1))] [] (zup μ (μ a0 5) x1 (if (zw ((zw (10 * x1)) + 10) : Int) < 99 then (zw ((zw (10 * x1)) + 10) : Int) else 99)) Q))) :
    zE X false l d bc bs y_Room_init 174 [some (7, 0, a0), some (0, 0, x1)] [] μ Q :=
  zE_aload_n (zTb t_Room_init 90 rfl) rfl (zG_getf rfl (zTb t_Room_init 91 rfl) lf_5_33 rfl (zE_nn (t := 12) h.1 (zE_iload_n (zTb t_Room_init 92 rfl) rfl (zE_bipush (zTb t_Room_init 93 rfl) rfl (by decide) (by decide) (zE_bipush (zTb t_Room_init 94 rfl) rfl (by decide) (by decide) (zE_iload_n (zTb t_Room_init 95 rfl) rfl (zE_imul (zTb t_Room_init 96 rfl) (zE_bipush (zTb t_Room_init 97 rfl) rfl (by decide) (by decide) (zE_iadd (zTb t_Room_init 98 rfl) (zG_mmin (zs1 158 rfl) (zTb t_Room_init 99 rfl) (by omega) (Nat.le_of_ble_eq_true rfl) (zE_iast (zTb t_Room_init 100 rfl) h.2.1 (zE_iinc (ls' := [some (7, 0, a0), some (0, 0, zw (x1 + 1))]) (zTb t_Room_init 101 rfl) rfl rfl (by decide) (zE_goto (zTb t_Room_init 102 rfl) rfl (h.2.2))))))))))))))
/-! Rows_init -/
set_option maxRecDepth 20000 in
theorem s_Rows_init_0 {X : zX} {l : Launch} {d bc bs : Nat} {L0 : Nat} {a0 x1 : Int} {μ : zM} {Q : Option zV → zM → Prop} (hd1 : 1 ≤ d)
    (h : zE X false l d bc bs y_Rows_init 4 [some (8, L0, a0), some (0, 0, x1)] [] μ Q) :
    zE X false l d bc bs y_Rows_init 0 [some (8, L0, a0), some (0, 0, x1)] [] μ Q :=
  zE_aload_n (zTb t_Rows_init 0 rfl) rfl (zE_obj (zTb t_Rows_init 1 rfl) (zs1 45 rfl) (zs1 26 rfl) (zs1 27 rfl) (by omega) (by decide) (Nat.le_of_ble_eq_true rfl) (h))
set_option maxRecDepth 20000 in
theorem s_Rows_init_4 {X : zX} {l : Launch} {d bc bs : Nat} {L0 : Nat} {a0 x1 : Int} {μ : zM} {Q : Option zV → zM → Prop}
    (h : zE X false l d bc bs y_Rows_init 9 [some (8, L0, a0), some (0, 0, x1)] [] (zup μ a0 0 0) Q) :
    zE X false l d bc bs y_Rows_init 4 [some (8, L0, a0), some (0, 0, x1)] [] μ Q :=
  zE_aload_n (zTb t_Rows_init 2 rfl) rfl (zE_iconst (zTb t_Rows_init 3 rfl) (by decide) (by decide) (zG_puti rfl (zTb t_Rows_init 4 rfl) lf_6_9 rfl rfl (fun q => by cases q) (Or.inl rfl) (h)))
set_option maxRecDepth 20000 in
theorem s_Rows_init_9 {X : zX} {l : Launch} {d bc bs : Nat} {L0 : Nat} {a0 x1 : Int} {μ : zM} {Q : Option zV → zM → Prop} (hd1 : 1 ≤ d)
    (h : zE X false l d bc bs y_Rows_init 18 [some (8, L0, a0), none] [] (zup μ a0 1 (if (0 : Int) < x1 then (x1 : Int) else 0)) Q) :
    zE X false l d bc bs y_Rows_init 9 [some (8, L0, a0), some (0, 0, x1)] [] μ Q :=
  zE_aload_n (zTb t_Rows_init 5 rfl) rfl (zE_iconst (zTb t_Rows_init 6 rfl) (by decide) (by decide) (zE_iload_n (zTb t_Rows_init 7 rfl) rfl (zG_mmax (zs1 46 rfl) (zTb t_Rows_init 8 rfl) (by omega) (Nat.le_of_ble_eq_true rfl) (zG_puti rfl (zTb t_Rows_init 9 rfl) lf_6_21 rfl rfl (fun q => by cases q) (Or.inr ⟨rfl, rfl, rfl, zs1 52 rfl⟩) (zE_mask [true, false] rfl (h))))))
set_option maxRecDepth 20000 in
theorem s_Rows_init_18 {X : zX} {l : Launch} {d bc bs : Nat} {L0 : Nat} {a0 : Int} {μ : zM} {Q : Option zV → zM → Prop}
    (h : ((1 ≤ bc ∧ L0 ≤ bs) ∧ (μ a0 1 = (L0 : Int) ∧ L0 < 60000000) ∧ zE X false l d (bc - 1) (bs - L0) y_Rows_init 28 [some (8, L0, a0), none] [] (zup (zal μ 12 L0) a0 2 (μ (-1) 0)) Q)) :
    zE X false l d bc bs y_Rows_init 18 [some (8, L0, a0), none] [] μ Q :=
  zE_aload_n (zTb t_Rows_init 10 rfl) rfl (zE_aload_n (zTb t_Rows_init 11 rfl) rfl (zG_getf rfl (zTb t_Rows_init 12 rfl) lf_6_21 rfl (zD_newa (t := 12) (L := L0) h.1 (zTb t_Rows_init 13 rfl) (Or.inl ⟨rfl, rfl⟩) h.2.1.1 h.2.1.2 (zs1 72 rfl) (zG_putr (t' := 12) (L' := L0) rfl (zTb t_Rows_init 14 rfl) lf_6_24 rfl (Or.inr ⟨_, rfl⟩) (by decide) (fun q => by cases q) (Or.inr ⟨rfl, rfl, rfl, zs1 53 rfl⟩) (h.2.2)))))
set_option maxRecDepth 20000 in
theorem s_Rows_init_28 {X : zX} {l : Launch} {d bc bs : Nat} {L0 : Nat} {a0 : Int} {μ : zM} {Q : Option zV → zM → Prop}
    (h : ((1 ≤ bc ∧ L0 ≤ bs) ∧ (μ a0 1 = (L0 : Int) ∧ L0 < 60000000) ∧ zE X false l d (bc - 1) (bs - L0) y_Rows_init 38 [some (8, L0, a0), none] [] (zup (zal μ 12 L0) a0 3 (μ (-1) 0)) Q)) :
    zE X false l d bc bs y_Rows_init 28 [some (8, L0, a0), none] [] μ Q :=
  zE_aload_n (zTb t_Rows_init 15 rfl) rfl (zE_aload_n (zTb t_Rows_init 16 rfl) rfl (zG_getf rfl (zTb t_Rows_init 17 rfl) lf_6_21 rfl (zD_newa (t := 12) (L := L0) h.1 (zTb t_Rows_init 18 rfl) (Or.inl ⟨rfl, rfl⟩) h.2.1.1 h.2.1.2 (zs1 72 rfl) (zG_putr (t' := 12) (L' := L0) rfl (zTb t_Rows_init 19 rfl) lf_6_28 rfl (Or.inr ⟨_, rfl⟩) (by decide) (fun q => by cases q) (Or.inr ⟨rfl, rfl, rfl, zs1 56 rfl⟩) (h.2.2)))))
set_option maxRecDepth 20000 in
theorem s_Rows_init_38 {X : zX} {l : Launch} {d bc bs : Nat} {L0 : Nat} {a0 : Int} {μ : zM} {Q : Option zV → zM → Prop}
    (h : ((1 ≤ bc ∧ L0 ≤ bs) ∧ (μ a0 1 = (L0 : Int) ∧ L0 < 60000000) ∧ Q none (zup (zal μ 12 L0) a0 4 (μ (-1) 0)))) :
    zE X false l d bc bs y_Rows_init 38 [some (8, L0, a0), none] [] μ Q :=
  zE_aload_n (zTb t_Rows_init 20 rfl) rfl (zE_aload_n (zTb t_Rows_init 21 rfl) rfl (zG_getf rfl (zTb t_Rows_init 22 rfl) lf_6_21 rfl (zD_newa (t := 12) (L := L0) h.1 (zTb t_Rows_init 23 rfl) (Or.inl ⟨rfl, rfl⟩) h.2.1.1 h.2.1.2 (zs1 72 rfl) (zG_putr (t' := 12) (L' := L0) rfl (zTb t_Rows_init 24 rfl) lf_6_31 rfl (Or.inr ⟨_, rfl⟩) (by decide) (fun q => by cases q) (Or.inr ⟨rfl, rfl, rfl, zs1 59 rfl⟩) (zE_ret (zTb t_Rows_init 25 rfl) rfl h.2.2)))))
/-! Plan_init -/
set_option maxRecDepth 20000 in
theorem s_Plan_init_0 {X : zX} {l : Launch} {d bc bs : Nat} {a0 : Int} {μ : zM} {Q : Option zV → zM → Prop} (hd1 : 1 ≤ d)
    (h : zE X false l d bc bs y_Plan_init 4 [some (4, 0, a0)] [] μ Q) :
    zE X false l d bc bs y_Plan_init 0 [some (4, 0, a0)] [] μ Q :=
  zE_aload_n (zTb t_Plan_init 0 rfl) rfl (zE_obj (zTb t_Plan_init 1 rfl) (zs1 77 rfl) (zs1 26 rfl) (zs1 27 rfl) (by omega) (by decide) (Nat.le_of_ble_eq_true rfl) (h))
set_option maxRecDepth 20000 in
theorem s_Plan_init_4 {X : zX} {l : Launch} {d bc bs : Nat} {a0 : Int} {μ : zM} {Q : Option zV → zM → Prop}
    (h : zE X false l d bc bs y_Plan_init 9 [some (4, 0, a0)] [] (zup μ a0 0 0) Q) :
    zE X false l d bc bs y_Plan_init 4 [some (4, 0, a0)] [] μ Q :=
  zE_aload_n (zTb t_Plan_init 2 rfl) rfl (zE_iconst (zTb t_Plan_init 3 rfl) (by decide) (by decide) (zG_puti rfl (zTb t_Plan_init 4 rfl) lf_2_9 rfl rfl (fun q => by cases q) (Or.inl rfl) (h)))
set_option maxRecDepth 20000 in
theorem s_Plan_init_9 {X : zX} {l : Launch} {d bc bs : Nat} {a0 : Int} {μ : zM} {Q : Option zV → zM → Prop}
    (h : ((1 ≤ bc ∧ 5 ≤ bs) ∧ zE X false l d (bc - 1) (bs - 5) y_Plan_init 16 [some (4, 0, a0)] [] (zup (zal μ 12 5) a0 1 (μ (-1) 0)) Q)) :
    zE X false l d bc bs y_Plan_init 9 [some (4, 0, a0)] [] μ Q :=
  zE_aload_n (zTb t_Plan_init 5 rfl) rfl (zE_iconst (zTb t_Plan_init 6 rfl) (by decide) (by decide) (zD_newa (t := 12) (L := 5) h.1 (zTb t_Plan_init 7 rfl) (Or.inl ⟨rfl, rfl⟩) rfl (by decide) (zs1 72 rfl) (zG_putr (t' := 12) (L' := 5) rfl (zTb t_Plan_init 8 rfl) lf_2_15 rfl (Or.inr ⟨_, rfl⟩) (by decide) (fun q => by cases q) (Or.inr ⟨rfl, rfl, rfl, zs1 86 rfl⟩) (h.2))))
set_option maxRecDepth 20000 in
theorem s_Plan_init_16 {X : zX} {l : Launch} {d bc bs : Nat} {a0 : Int} {μ : zM} {Q : Option zV → zM → Prop}
    (h : ((1 ≤ bc ∧ 5 ≤ bs) ∧ zE X false l d (bc - 1) (bs - 5) y_Plan_init 23 [some (4, 0, a0)] [] (zup (zal μ 12 5) a0 2 (μ (-1) 0)) Q)) :
    zE X false l d bc bs y_Plan_init 16 [some (4, 0, a0)] [] μ Q :=
  zE_aload_n (zTb t_Plan_init 9 rfl) rfl (zE_iconst (zTb t_Plan_init 10 rfl) (by decide) (by decide) (zD_newa (t := 12) (L := 5) h.1 (zTb t_Plan_init 11 rfl) (Or.inl ⟨rfl, rfl⟩) rfl (by decide) (zs1 72 rfl) (zG_putr (t' := 12) (L' := 5) rfl (zTb t_Plan_init 12 rfl) lf_2_19 rfl (Or.inr ⟨_, rfl⟩) (by decide) (fun q => by cases q) (Or.inr ⟨rfl, rfl, rfl, zs1 89 rfl⟩) (h.2))))
set_option maxRecDepth 20000 in
theorem s_Plan_init_23 {X : zX} {l : Launch} {d bc bs : Nat} {a0 : Int} {μ : zM} {Q : Option zV → zM → Prop}
    (h : ((1 ≤ bc ∧ 5 ≤ bs) ∧ zE X false l d (bc - 1) (bs - 5) y_Plan_init 30 [some (4, 0, a0)] [] (zup (zal μ 12 5) a0 3 (μ (-1) 0)) Q)) :
    zE X false l d bc bs y_Plan_init 23 [some (4, 0, a0)] [] μ Q :=
  zE_aload_n (zTb t_Plan_init 13 rfl) rfl (zE_iconst (zTb t_Plan_init 14 rfl) (by decide) (by decide) (zD_newa (t := 12) (L := 5) h.1 (zTb t_Plan_init 15 rfl) (Or.inl ⟨rfl, rfl⟩) rfl (by decide) (zs1 72 rfl) (zG_putr (t' := 12) (L' := 5) rfl (zTb t_Plan_init 16 rfl) lf_2_22 rfl (Or.inr ⟨_, rfl⟩) (by decide) (fun q => by cases q) (Or.inr ⟨rfl, rfl, rfl, zs1 92 rfl⟩) (h.2))))
set_option maxRecDepth 20000 in
theorem s_Plan_init_30 {X : zX} {l : Launch} {d bc bs : Nat} {a0 : Int} {μ : zM} {Q : Option zV → zM → Prop}
    (h : ((1 ≤ bc ∧ 5 ≤ bs) ∧ zE X false l d (bc - 1) (bs - 5) y_Plan_init 37 [some (4, 0, a0)] [] (zup (zal μ 12 5) a0 4 (μ (-1) 0)) Q)) :
    zE X false l d bc bs y_Plan_init 30 [some (4, 0, a0)] [] μ Q :=
  zE_aload_n (zTb t_Plan_init 17 rfl) rfl (zE_iconst (zTb t_Plan_init 18 rfl) (by decide) (by decide) (zD_newa (t := 12) (L := 5) h.1 (zTb t_Plan_init 19 rfl) (Or.inl ⟨rfl, rfl⟩) rfl (by decide) (zs1 72 rfl) (zG_putr (t' := 12) (L' := 5) rfl (zTb t_Plan_init 20 rfl) lf_2_25 rfl (Or.inr ⟨_, rfl⟩) (by decide) (fun q => by cases q) (Or.inr ⟨rfl, rfl, rfl, zs1 95 rfl⟩) (h.2))))
set_option maxRecDepth 20000 in
theorem s_Plan_init_37 {X : zX} {l : Launch} {d bc bs : Nat} {a0 : Int} {μ : zM} {Q : Option zV → zM → Prop}
    (h : ((1 ≤ bc ∧ 5 ≤ bs) ∧ zE X false l d (bc - 1) (bs - 5) y_Plan_init 44 [some (4, 0, a0)] [] (zup (zal μ 12 5) a0 5 (μ (-1) 0)) Q)) :
    zE X false l d bc bs y_Plan_init 37 [some (4, 0, a0)] [] μ Q :=
  zE_aload_n (zTb t_Plan_init 21 rfl) rfl (zE_iconst (zTb t_Plan_init 22 rfl) (by decide) (by decide) (zD_newa (t := 12) (L := 5) h.1 (zTb t_Plan_init 23 rfl) (Or.inl ⟨rfl, rfl⟩) rfl (by decide) (zs1 72 rfl) (zG_putr (t' := 12) (L' := 5) rfl (zTb t_Plan_init 24 rfl) lf_2_28 rfl (Or.inr ⟨_, rfl⟩) (by decide) (fun q => by cases q) (Or.inr ⟨rfl, rfl, rfl, zs1 98 rfl⟩) (h.2))))
set_option maxRecDepth 20000 in
theorem s_Plan_init_44 {X : zX} {l : Launch} {d d1 bc bs : Nat} {a0 : Int} {μ : zM} {Q : Option zV → zM → Prop} (hdd : d1 + 1 ≤ d)
    (h : ((0 ≤ μ a0 3) ∧ (zCv X false l d1 0 0 y_Arrays_fill [(14, 5, μ a0 3), (0, 0, 31)] μ (fun ν1 => zE X false l d bc bs y_Plan_init 53 [some (4, 0, a0)] [] ν1 Q)))) :
    zE X false l d bc bs y_Plan_init 44 [some (4, 0, a0)] [] μ Q :=
  zE_aload_n (zTb t_Plan_init 25 rfl) rfl (zG_getf rfl (zTb t_Plan_init 26 rfl) lf_2_22 rfl (zE_nn (t := 12) h.1 (zE_bipush (zTb t_Plan_init 27 rfl) rfl (by decide) (by decide) (zD_calls (as := [(14, 5, μ a0 3), (0, 0, 31)]) (rest := []) rfl (zTb t_Plan_init 28 rfl) lm_Plan_31 np_Arrays_fill hdd (Nat.le_of_ble_eq_true rfl) (zCv_use (fun ν1 k2 => k2) h.2)))))
set_option maxRecDepth 20000 in
theorem s_Plan_init_53 {X : zX} {l : Launch} {d d1 bc bs : Nat} {a0 : Int} {μ : zM} {Q : Option zV → zM → Prop} (hdd : d1 + 1 ≤ d)
    (h : ((0 ≤ μ a0 4) ∧ (zCv X false l d1 0 0 y_Arrays_fill [(14, 5, μ a0 4), (0, 0, 31)] μ (fun ν1 => zE X false l d bc bs y_Plan_init 62 [some (4, 0, a0)] [] ν1 Q)))) :
    zE X false l d bc bs y_Plan_init 53 [some (4, 0, a0)] [] μ Q :=
  zE_aload_n (zTb t_Plan_init 29 rfl) rfl (zG_getf rfl (zTb t_Plan_init 30 rfl) lf_2_25 rfl (zE_nn (t := 12) h.1 (zE_bipush (zTb t_Plan_init 31 rfl) rfl (by decide) (by decide) (zD_calls (as := [(14, 5, μ a0 4), (0, 0, 31)]) (rest := []) rfl (zTb t_Plan_init 32 rfl) lm_Plan_31 np_Arrays_fill hdd (Nat.le_of_ble_eq_true rfl) (zCv_use (fun ν1 k2 => k2) h.2)))))
set_option maxRecDepth 20000 in
theorem s_Plan_init_62 {X : zX} {l : Launch} {d d1 bc bs : Nat} {a0 : Int} {μ : zM} {Q : Option zV → zM → Prop} (hdd : d1 + 1 ≤ d)
    (h : ((0 ≤ μ a0 5) ∧ (zCv X false l d1 0 0 y_Arrays_fill [(14, 5, μ a0 5), (0, 0, (-1))] μ (fun ν1 => Q none ν1)))) :
    zE X false l d bc bs y_Plan_init 62 [some (4, 0, a0)] [] μ Q :=
  zE_aload_n (zTb t_Plan_init 33 rfl) rfl (zG_getf rfl (zTb t_Plan_init 34 rfl) lf_2_28 rfl (zE_nn (t := 12) h.1 (zE_iconst (zTb t_Plan_init 35 rfl) (by decide) (by decide) (zD_calls (as := [(14, 5, μ a0 5), (0, 0, (-1))]) (rest := []) rfl (zTb t_Plan_init 36 rfl) lm_Plan_31 np_Arrays_fill hdd (Nat.le_of_ble_eq_true rfl) (zCv_use (fun ν1 k2 => zE_ret (zTb t_Plan_init 37 rfl) rfl k2) h.2)))))
/-! Law_init -/
set_option maxRecDepth 20000 in
theorem s_Law_init_0 {X : zX} {l : Launch} {d bc bs : Nat} {a0 : Int} {μ : zM} {Q : Option zV → zM → Prop} (hd1 : 1 ≤ d)
    (h : zE X false l d bc bs y_Law_init 4 [some (3, 0, a0)] [] μ Q) :
    zE X false l d bc bs y_Law_init 0 [some (3, 0, a0)] [] μ Q :=
  zE_aload_n (zTb t_Law_init 0 rfl) rfl (zE_obj (zTb t_Law_init 1 rfl) (zs1 118 rfl) (zs1 26 rfl) (zs1 27 rfl) (by omega) (by decide) (Nat.le_of_ble_eq_true rfl) (h))
set_option maxRecDepth 20000 in
theorem s_Law_init_4 {X : zX} {l : Launch} {d bc bs : Nat} {a0 : Int} {μ : zM} {Q : Option zV → zM → Prop}
    (h : zE X false l d bc bs y_Law_init 9 [some (3, 0, a0)] [] (zup μ a0 0 0) Q) :
    zE X false l d bc bs y_Law_init 4 [some (3, 0, a0)] [] μ Q :=
  zE_aload_n (zTb t_Law_init 2 rfl) rfl (zE_iconst (zTb t_Law_init 3 rfl) (by decide) (by decide) (zG_puti rfl (zTb t_Law_init 4 rfl) lf_1_9 rfl rfl (fun q => by cases q) (Or.inl rfl) (h)))
set_option maxRecDepth 20000 in
theorem s_Law_init_9 {X : zX} {l : Launch} {d bc bs : Nat} {a0 : Int} {μ : zM} {Q : Option zV → zM → Prop}
    (h : ((1 ≤ bc ∧ 12 ≤ bs) ∧ zE X false l d (bc - 1) (bs - 12) y_Law_init 17 [some (3, 0, a0)] [] (zup (zal μ 14 12) a0 1 (μ (-1) 0)) Q)) :
    zE X false l d bc bs y_Law_init 9 [some (3, 0, a0)] [] μ Q :=
  zE_aload_n (zTb t_Law_init 5 rfl) rfl (zE_bipush (zTb t_Law_init 6 rfl) rfl (by decide) (by decide) (zD_newa (t := 14) (L := 12) h.1 (zTb t_Law_init 7 rfl) (Or.inr (Or.inr ⟨rfl, rfl⟩)) rfl (by decide) (zs1 157 rfl) (zG_putr (t' := 14) (L' := 12) rfl (zTb t_Law_init 8 rfl) lf_1_15 rfl (Or.inr ⟨_, rfl⟩) (by decide) (fun q => by cases q) (Or.inr ⟨rfl, rfl, rfl, zs1 122 rfl⟩) (h.2))))
set_option maxRecDepth 20000 in
theorem s_Law_init_17 {X : zX} {l : Launch} {d bc bs : Nat} {a0 : Int} {μ : zM} {Q : Option zV → zM → Prop}
    (h : ((1 ≤ bc ∧ 12 ≤ bs) ∧ zE X false l d (bc - 1) (bs - 12) y_Law_init 25 [some (3, 0, a0)] [] (zup (zal μ 12 12) a0 2 (μ (-1) 0)) Q)) :
    zE X false l d bc bs y_Law_init 17 [some (3, 0, a0)] [] μ Q :=
  zE_aload_n (zTb t_Law_init 9 rfl) rfl (zE_bipush (zTb t_Law_init 10 rfl) rfl (by decide) (by decide) (zD_newa (t := 12) (L := 12) h.1 (zTb t_Law_init 11 rfl) (Or.inl ⟨rfl, rfl⟩) rfl (by decide) (zs1 72 rfl) (zG_putr (t' := 12) (L' := 12) rfl (zTb t_Law_init 12 rfl) lf_1_19 rfl (Or.inr ⟨_, rfl⟩) (by decide) (fun q => by cases q) (Or.inr ⟨rfl, rfl, rfl, zs1 125 rfl⟩) (h.2))))
set_option maxRecDepth 20000 in
theorem s_Law_init_25 {X : zX} {l : Launch} {d bc bs : Nat} {a0 : Int} {μ : zM} {Q : Option zV → zM → Prop}
    (h : ((1 ≤ bc ∧ 12 ≤ bs) ∧ zE X false l d (bc - 1) (bs - 12) y_Law_init 33 [some (3, 0, a0)] [] (zup (zal μ 12 12) a0 3 (μ (-1) 0)) Q)) :
    zE X false l d bc bs y_Law_init 25 [some (3, 0, a0)] [] μ Q :=
  zE_aload_n (zTb t_Law_init 13 rfl) rfl (zE_bipush (zTb t_Law_init 14 rfl) rfl (by decide) (by decide) (zD_newa (t := 12) (L := 12) h.1 (zTb t_Law_init 15 rfl) (Or.inl ⟨rfl, rfl⟩) rfl (by decide) (zs1 72 rfl) (zG_putr (t' := 12) (L' := 12) rfl (zTb t_Law_init 16 rfl) lf_1_23 rfl (Or.inr ⟨_, rfl⟩) (by decide) (fun q => by cases q) (Or.inr ⟨rfl, rfl, rfl, zs1 128 rfl⟩) (h.2))))
set_option maxRecDepth 20000 in
theorem s_Law_init_33 {X : zX} {l : Launch} {d bc bs : Nat} {a0 : Int} {μ : zM} {Q : Option zV → zM → Prop}
    (h : ((1 ≤ bc ∧ 12 ≤ bs) ∧ zE X false l d (bc - 1) (bs - 12) y_Law_init 41 [some (3, 0, a0)] [] (zup (zal μ 12 12) a0 4 (μ (-1) 0)) Q)) :
    zE X false l d bc bs y_Law_init 33 [some (3, 0, a0)] [] μ Q :=
  zE_aload_n (zTb t_Law_init 17 rfl) rfl (zE_bipush (zTb t_Law_init 18 rfl) rfl (by decide) (by decide) (zD_newa (t := 12) (L := 12) h.1 (zTb t_Law_init 19 rfl) (Or.inl ⟨rfl, rfl⟩) rfl (by decide) (zs1 72 rfl) (zG_putr (t' := 12) (L' := 12) rfl (zTb t_Law_init 20 rfl) lf_1_26 rfl (Or.inr ⟨_, rfl⟩) (by decide) (fun q => by cases q) (Or.inr ⟨rfl, rfl, rfl, zs1 131 rfl⟩) (h.2))))
set_option maxRecDepth 20000 in
theorem s_Law_init_41 {X : zX} {l : Launch} {d bc bs : Nat} {a0 : Int} {μ : zM} {Q : Option zV → zM → Prop}
    (h : zE X false l d bc bs y_Law_init 46 [some (3, 0, a0)] [] (zup μ a0 5 0) Q) :
    zE X false l d bc bs y_Law_init 41 [some (3, 0, a0)] [] μ Q :=
  zE_aload_n (zTb t_Law_init 21 rfl) rfl (zE_iconst (zTb t_Law_init 22 rfl) (by decide) (by decide) (zG_puti rfl (zTb t_Law_init 23 rfl) lf_1_29 rfl rfl (fun q => by cases q) (Or.inl rfl) (h)))
set_option maxRecDepth 20000 in
theorem s_Law_init_46 {X : zX} {l : Launch} {d bc bs : Nat} {a0 : Int} {μ : zM} {Q : Option zV → zM → Prop}
    (h : ((1 ≤ bc ∧ 400 ≤ bs) ∧ zE X false l d (bc - 1) (bs - 400) y_Law_init 55 [some (3, 0, a0)] [] (zup (zal μ 12 400) a0 6 (μ (-1) 0)) Q)) :
    zE X false l d bc bs y_Law_init 46 [some (3, 0, a0)] [] μ Q :=
  zE_aload_n (zTb t_Law_init 24 rfl) rfl (zE_sipush (zTb t_Law_init 25 rfl) rfl (by decide) (by decide) (zD_newa (t := 12) (L := 400) h.1 (zTb t_Law_init 26 rfl) (Or.inl ⟨rfl, rfl⟩) rfl (by decide) (zs1 72 rfl) (zG_putr (t' := 12) (L' := 400) rfl (zTb t_Law_init 27 rfl) lf_1_32 rfl (Or.inr ⟨_, rfl⟩) (by decide) (fun q => by cases q) (Or.inr ⟨rfl, rfl, rfl, zs1 136 rfl⟩) (h.2))))
set_option maxRecDepth 20000 in
theorem s_Law_init_55 {X : zX} {l : Launch} {d bc bs : Nat} {a0 : Int} {μ : zM} {Q : Option zV → zM → Prop}
    (h : ((1 ≤ bc ∧ 400 ≤ bs) ∧ Q none (zup (zal μ 12 400) a0 7 (μ (-1) 0)))) :
    zE X false l d bc bs y_Law_init 55 [some (3, 0, a0)] [] μ Q :=
  zE_aload_n (zTb t_Law_init 28 rfl) rfl (zE_sipush (zTb t_Law_init 29 rfl) rfl (by decide) (by decide) (zD_newa (t := 12) (L := 400) h.1 (zTb t_Law_init 30 rfl) (Or.inl ⟨rfl, rfl⟩) rfl (by decide) (zs1 72 rfl) (zG_putr (t' := 12) (L' := 400) rfl (zTb t_Law_init 31 rfl) lf_1_35 rfl (Or.inr ⟨_, rfl⟩) (by decide) (fun q => by cases q) (Or.inr ⟨rfl, rfl, rfl, zs1 138 rfl⟩) (zE_ret (zTb t_Law_init 32 rfl) rfl h.2))))
/-! Reader_init -/
set_option maxRecDepth 20000 in
theorem s_Reader_init_0 {X : zX} {l : Launch} {d bc bs : Nat} {a0 : Int} {μ : zM} {Q : Option zV → zM → Prop} (hd1 : 1 ≤ d)
    (h : zE X false l d bc bs y_Reader_init 4 [some (5, 0, a0)] [] μ Q) :
    zE X false l d bc bs y_Reader_init 0 [some (5, 0, a0)] [] μ Q :=
  zE_aload_n (zTb t_Reader_init 0 rfl) rfl (zE_obj (zTb t_Reader_init 1 rfl) (zs1 229 rfl) (zs1 26 rfl) (zs1 27 rfl) (by omega) (by decide) (Nat.le_of_ble_eq_true rfl) (h))
set_option maxRecDepth 20000 in
theorem s_Reader_init_4 {X : zX} {l : Launch} {d bc bs : Nat} {a0 : Int} {μ : zM} {Q : Option zV → zM → Prop}
    (h : ((1 ≤ bc ∧ 400 ≤ bs) ∧ zE X false l d (bc - 1) (bs - 400) y_Reader_init 13 [some (5, 0, a0)] [] (zup (zal μ 12 400) a0 0 (μ (-1) 0)) Q)) :
    zE X false l d bc bs y_Reader_init 4 [some (5, 0, a0)] [] μ Q :=
  zE_aload_n (zTb t_Reader_init 2 rfl) rfl (zE_sipush (zTb t_Reader_init 3 rfl) rfl (by decide) (by decide) (zD_newa (t := 12) (L := 400) h.1 (zTb t_Reader_init 4 rfl) (Or.inl ⟨rfl, rfl⟩) rfl (by decide) (zs1 72 rfl) (zG_putr (t' := 12) (L' := 400) rfl (zTb t_Reader_init 5 rfl) lf_3_9 rfl (Or.inr ⟨_, rfl⟩) (by decide) (fun q => by cases q) (Or.inr ⟨rfl, rfl, rfl, zs1 232 rfl⟩) (h.2))))
set_option maxRecDepth 20000 in
theorem s_Reader_init_13 {X : zX} {l : Launch} {d bc bs : Nat} {a0 : Int} {μ : zM} {Q : Option zV → zM → Prop}
    (h : zE X false l d bc bs y_Reader_init 18 [some (5, 0, a0)] [] (zup μ a0 1 0) Q) :
    zE X false l d bc bs y_Reader_init 13 [some (5, 0, a0)] [] μ Q :=
  zE_aload_n (zTb t_Reader_init 6 rfl) rfl (zE_iconst (zTb t_Reader_init 7 rfl) (by decide) (by decide) (zG_puti rfl (zTb t_Reader_init 8 rfl) lf_3_15 rfl rfl (fun q => by cases q) (Or.inl rfl) (h)))
set_option maxRecDepth 20000 in
theorem s_Reader_init_18 {X : zX} {l : Launch} {d bc bs : Nat} {a0 : Int} {μ : zM} {Q : Option zV → zM → Prop}
    (h : zE X false l d bc bs y_Reader_init 23 [some (5, 0, a0)] [] (zup μ a0 2 0) Q) :
    zE X false l d bc bs y_Reader_init 18 [some (5, 0, a0)] [] μ Q :=
  zE_aload_n (zTb t_Reader_init 9 rfl) rfl (zE_iconst (zTb t_Reader_init 10 rfl) (by decide) (by decide) (zG_puti rfl (zTb t_Reader_init 11 rfl) lf_3_19 rfl rfl (fun q => by cases q) (Or.inl rfl) (h)))
set_option maxRecDepth 20000 in
theorem s_Reader_init_23 {X : zX} {l : Launch} {d bc bs : Nat} {a0 : Int} {μ : zM} {Q : Option zV → zM → Prop}
    (h : zE X false l d bc bs y_Reader_init 28 [some (5, 0, a0)] [] (zup μ a0 3 0) Q) :
    zE X false l d bc bs y_Reader_init 23 [some (5, 0, a0)] [] μ Q :=
  zE_aload_n (zTb t_Reader_init 12 rfl) rfl (zE_iconst (zTb t_Reader_init 13 rfl) (by decide) (by decide) (zG_puti rfl (zTb t_Reader_init 14 rfl) lf_3_22 rfl rfl (fun q => by cases q) (Or.inl rfl) (h)))
set_option maxRecDepth 20000 in
theorem s_Reader_init_28 {X : zX} {l : Launch} {d bc bs : Nat} {a0 : Int} {μ : zM} {Q : Option zV → zM → Prop}
    (h : zE X false l d bc bs y_Reader_init 33 [some (5, 0, a0)] [] (zup μ a0 4 0) Q) :
    zE X false l d bc bs y_Reader_init 28 [some (5, 0, a0)] [] μ Q :=
  zE_aload_n (zTb t_Reader_init 15 rfl) rfl (zE_iconst (zTb t_Reader_init 16 rfl) (by decide) (by decide) (zG_puti rfl (zTb t_Reader_init 17 rfl) lf_3_25 rfl rfl (fun q => by cases q) (Or.inl rfl) (h)))
set_option maxRecDepth 20000 in
theorem s_Reader_init_33 {X : zX} {l : Launch} {d bc bs : Nat} {a0 : Int} {μ : zM} {Q : Option zV → zM → Prop}
    (h : zE X false l d bc bs y_Reader_init 38 [some (5, 0, a0)] [] (zup μ a0 5 0) Q) :
    zE X false l d bc bs y_Reader_init 33 [some (5, 0, a0)] [] μ Q :=
  zE_aload_n (zTb t_Reader_init 18 rfl) rfl (zE_iconst (zTb t_Reader_init 19 rfl) (by decide) (by decide) (zG_puti rfl (zTb t_Reader_init 20 rfl) lf_3_28 rfl rfl (fun q => by cases q) (Or.inl rfl) (h)))
set_option maxRecDepth 20000 in
theorem s_Reader_init_38 {X : zX} {l : Launch} {d d1 bc bs : Nat} {a0 : Int} {μ : zM} {Q : Option zV → zM → Prop} (hdd : d1 + 1 ≤ d)
    (h : ((1 ≤ bc ∧ 8 ≤ bs) ∧ ((6 ≤ bc - 1 ∧ 848 ≤ bs - 8) ∧ zCv X false l d1 6 848 y_Law_init [(3, 0, μ (-1) 0)] (zal μ 1 0) (fun ν1 => Q none (zup ν1 a0 6 (μ (-1) 0)))))) :
    zE X false l d bc bs y_Reader_init 38 [some (5, 0, a0)] [] μ Q :=
  zE_aload_n (zTb t_Reader_init 21 rfl) rfl (zD_new (t := 1) (L := 0) h.1 (zTb t_Reader_init 22 rfl) (by decide) (by decide) (zs1 230 rfl) (zs1 114 rfl) li_Law (zE_dup (zTb t_Reader_init 23 rfl) (by simp) (zD_calli (as := []) (rest := [(3, 0, μ (-1) 0), (5, 0, a0)]) h.2.1 rfl (zTb t_Reader_init 24 rfl) lm_Reader_33 (by decide) rfl np_Law_init hdd (Nat.le_of_ble_eq_true rfl) (zCv_use (fun ν1 k2 => zG_putr (t' := 1) (L' := 0) rfl (zTb t_Reader_init 25 rfl) lf_3_34 rfl (Or.inl ⟨_, rfl⟩) (by decide) (fun q => by cases q) (Or.inr ⟨rfl, rfl, rfl, zs1 238 rfl⟩) (zE_ret (zTb t_Reader_init 26 rfl) rfl k2)) h.2.2))))
/-! World_init -/
set_option maxRecDepth 20000 in
theorem s_World_init_0 {X : zX} {l : Launch} {d bc bs : Nat} {a0 : Int} {μ : zM} {Q : Option zV → zM → Prop} (hd1 : 1 ≤ d)
    (h : zE X false l d bc bs y_World_init 4 [some (11, 0, a0)] [] μ Q) :
    zE X false l d bc bs y_World_init 0 [some (11, 0, a0)] [] μ Q :=
  zE_aload_n (zTb t_World_init 0 rfl) rfl (zE_obj (zTb t_World_init 1 rfl) (zs2 20 rfl) (zs1 26 rfl) (zs1 27 rfl) (by omega) (by decide) (Nat.le_of_ble_eq_true rfl) (h))
set_option maxRecDepth 20000 in
theorem s_World_init_4 {X : zX} {l : Launch} {d bc bs : Nat} {a0 : Int} {μ : zM} {Q : Option zV → zM → Prop}
    (h : zE X false l d bc bs y_World_init 9 [some (11, 0, a0)] [] (zup μ a0 0 0) Q) :
    zE X false l d bc bs y_World_init 4 [some (11, 0, a0)] [] μ Q :=
  zE_aload_n (zTb t_World_init 2 rfl) rfl (zE_iconst (zTb t_World_init 3 rfl) (by decide) (by decide) (zG_puti rfl (zTb t_World_init 4 rfl) lf_9_9 rfl rfl (fun q => by cases q) (Or.inl rfl) (h)))
set_option maxRecDepth 20000 in
theorem s_World_init_9 {X : zX} {l : Launch} {d bc bs : Nat} {a0 : Int} {μ : zM} {Q : Option zV → zM → Prop}
    (h : ((1 ≤ bc ∧ 5 ≤ bs) ∧ Q none (zup (zal μ 12 5) a0 1 (μ (-1) 0)))) :
    zE X false l d bc bs y_World_init 9 [some (11, 0, a0)] [] μ Q :=
  zE_aload_n (zTb t_World_init 5 rfl) rfl (zE_iconst (zTb t_World_init 6 rfl) (by decide) (by decide) (zD_newa (t := 12) (L := 5) h.1 (zTb t_World_init 7 rfl) (Or.inl ⟨rfl, rfl⟩) rfl (by decide) (zs1 72 rfl) (zG_putr (t' := 12) (L' := 5) rfl (zTb t_World_init 8 rfl) lf_9_15 rfl (Or.inr ⟨_, rfl⟩) (by decide) (fun q => by cases q) (Or.inr ⟨rfl, rfl, rfl, zs2 23 rfl⟩) (zE_ret (zTb t_World_init 9 rfl) rfl h.2))))
/-! Scales_init -/
set_option maxRecDepth 20000 in
theorem s_Scales_init_0 {X : zX} {l : Launch} {d bc bs : Nat} {a0 : Int} {μ : zM} {Q : Option zV → zM → Prop} (hd1 : 1 ≤ d)
    (h : zE X false l d bc bs y_Scales_init 4 [some (9, 0, a0), none] [] μ Q) :
    zE X false l d bc bs y_Scales_init 0 [some (9, 0, a0), none] [] μ Q :=
  zE_aload_n (zTb t_Scales_init 0 rfl) rfl (zE_obj (zTb t_Scales_init 1 rfl) (zs2 35 rfl) (zs1 26 rfl) (zs1 27 rfl) (by omega) (by decide) (Nat.le_of_ble_eq_true rfl) (h))
set_option maxRecDepth 20000 in
theorem s_Scales_init_4 {X : zX} {l : Launch} {d d1 bc bs : Nat} {a0 : Int} {μ : zM} {Q : Option zV → zM → Prop} (hdd : d1 + 1 ≤ d)
    (h : ((1 ≤ bc ∧ 13 ≤ bs) ∧ ((1000 ≤ bc - 1 ∧ 9479 ≤ bs - 13) ∧ zCv X false l d1 1000 9479 y_Reckoner_init [(6, 0, μ (-1) 0)] (zal μ 4 0) (fun ν1 => zE X false l d ((bc - 1) - 1000) ((bs - 13) - 9479) y_Scales_init 15 [some (9, 0, a0), none] [] (zup ν1 a0 0 (μ (-1) 0)) Q)))) :
    zE X false l d bc bs y_Scales_init 4 [some (9, 0, a0), none] [] μ Q :=
  zE_aload_n (zTb t_Scales_init 2 rfl) rfl (zD_new (t := 4) (L := 0) h.1 (zTb t_Scales_init 3 rfl) (by decide) (by decide) (zs2 36 rfl) (zs2 37 rfl) li_Reckoner (zE_dup (zTb t_Scales_init 4 rfl) (by simp) (zD_calli (as := []) (rest := [(6, 0, μ (-1) 0), (9, 0, a0)]) h.2.1 rfl (zTb t_Scales_init 5 rfl) lm_Scales_11 (by decide) rfl np_Reckoner_init hdd (Nat.le_of_ble_eq_true rfl) (zCv_use (fun ν1 k2 => zG_putr (t' := 4) (L' := 0) rfl (zTb t_Scales_init 6 rfl) lf_7_12 rfl (Or.inl ⟨_, rfl⟩) (by decide) (fun q => by cases q) (Or.inr ⟨rfl, rfl, rfl, zs2 148 rfl⟩) (k2)) h.2.2))))
set_option maxRecDepth 20000 in
theorem s_Scales_init_15 {X : zX} {l : Launch} {d bc bs : Nat} {a0 : Int} {μ : zM} {Q : Option zV → zM → Prop}
    (h : zE X false l d bc bs y_Scales_init 20 [some (9, 0, a0), none] [] (zup μ a0 1 0) Q) :
    zE X false l d bc bs y_Scales_init 15 [some (9, 0, a0), none] [] μ Q :=
  zE_aload_n (zTb t_Scales_init 7 rfl) rfl (zE_iconst (zTb t_Scales_init 8 rfl) (by decide) (by decide) (zG_puti rfl (zTb t_Scales_init 9 rfl) lf_7_18 rfl rfl (fun q => by cases q) (Or.inl rfl) (h)))
set_option maxRecDepth 20000 in
theorem s_Scales_init_20 {X : zX} {l : Launch} {d bc bs : Nat} {a0 : Int} {μ : zM} {Q : Option zV → zM → Prop}
    (h : ((1 ≤ bc ∧ 4 ≤ bs) ∧ zE X false l d (bc - 1) (bs - 4) y_Scales_init 28 [some (9, 0, a0), none] [] (zup (zal μ 22 4) a0 2 (μ (-1) 0)) Q)) :
    zE X false l d bc bs y_Scales_init 20 [some (9, 0, a0), none] [] μ Q :=
  zE_aload_n (zTb t_Scales_init 10 rfl) rfl (zE_iconst (zTb t_Scales_init 11 rfl) (by decide) (by decide) (zD_anew (t := 22) (t' := 0) (L := 4) h.1 (zTb t_Scales_init 12 rfl) (by decide) (by decide) rfl (Or.inr (Or.inr (Or.inr rfl))) (fun _ _ => Nat.le_of_ble_eq_true rfl) (zs2 146 rfl) rfl (by decide) (zG_putr (t' := 22) (L' := 4) rfl (zTb t_Scales_init 13 rfl) lf_7_24 rfl (Or.inr ⟨_, rfl⟩) (by decide) (fun q => by cases q) (Or.inr ⟨rfl, rfl, rfl, zs2 151 rfl⟩) (h.2))))
set_option maxRecDepth 20000 in
theorem s_Scales_init_28 {X : zX} {l : Launch} {d bc bs : Nat} {a0 : Int} {μ : zM} {Q : Option zV → zM → Prop}
    (h : ((1 ≤ bc ∧ 4 ≤ bs) ∧ zE X false l d (bc - 1) (bs - 4) y_Scales_init 36 [some (9, 0, a0), none] [] (zup (zal μ 23 4) a0 3 (μ (-1) 0)) Q)) :
    zE X false l d bc bs y_Scales_init 28 [some (9, 0, a0), none] [] μ Q :=
  zE_aload_n (zTb t_Scales_init 14 rfl) rfl (zE_iconst (zTb t_Scales_init 15 rfl) (by decide) (by decide) (zD_anew (t := 23) (t' := 0) (L := 4) h.1 (zTb t_Scales_init 16 rfl) (by decide) (by decide) rfl (Or.inr (Or.inr (Or.inr rfl))) (fun _ _ => Nat.le_of_ble_eq_true rfl) (zs2 146 rfl) rfl (by decide) (zG_putr (t' := 23) (L' := 4) rfl (zTb t_Scales_init 17 rfl) lf_7_28 rfl (Or.inr ⟨_, rfl⟩) (by decide) (fun q => by cases q) (Or.inr ⟨rfl, rfl, rfl, zs2 152 rfl⟩) (h.2))))
set_option maxRecDepth 20000 in
theorem s_Scales_init_36 {X : zX} {l : Launch} {d bc bs : Nat} {a0 : Int} {μ : zM} {Q : Option zV → zM → Prop}
    (h : ((1 ≤ bc ∧ 4 ≤ bs) ∧ zE X false l d (bc - 1) (bs - 4) y_Scales_init 44 [some (9, 0, a0), none] [] (zup (zal μ 24 4) a0 4 (μ (-1) 0)) Q)) :
    zE X false l d bc bs y_Scales_init 36 [some (9, 0, a0), none] [] μ Q :=
  zE_aload_n (zTb t_Scales_init 18 rfl) rfl (zE_iconst (zTb t_Scales_init 19 rfl) (by decide) (by decide) (zD_anew (t := 24) (t' := 0) (L := 4) h.1 (zTb t_Scales_init 20 rfl) (by decide) (by decide) rfl (Or.inr (Or.inr (Or.inr rfl))) (fun _ _ => Nat.le_of_ble_eq_true rfl) (zs2 146 rfl) rfl (by decide) (zG_putr (t' := 24) (L' := 4) rfl (zTb t_Scales_init 21 rfl) lf_7_31 rfl (Or.inr ⟨_, rfl⟩) (by decide) (fun q => by cases q) (Or.inr ⟨rfl, rfl, rfl, zs2 153 rfl⟩) (h.2))))
set_option maxRecDepth 20000 in
theorem s_Scales_init_44 {X : zX} {l : Launch} {d bc bs : Nat} {a0 : Int} {μ : zM} {Q : Option zV → zM → Prop}
    (h : ((1 ≤ bc ∧ 4 ≤ bs) ∧ zE X false l d (bc - 1) (bs - 4) y_Scales_init 52 [some (9, 0, a0), none] [] (zup (zal μ 25 4) a0 5 (μ (-1) 0)) Q)) :
    zE X false l d bc bs y_Scales_init 44 [some (9, 0, a0), none] [] μ Q :=
  zE_aload_n (zTb t_Scales_init 22 rfl) rfl (zE_iconst (zTb t_Scales_init 23 rfl) (by decide) (by decide) (zD_anew (t := 25) (t' := 0) (L := 4) h.1 (zTb t_Scales_init 24 rfl) (by decide) (by decide) rfl (Or.inr (Or.inr (Or.inr rfl))) (fun _ _ => Nat.le_of_ble_eq_true rfl) (zs2 146 rfl) rfl (by decide) (zG_putr (t' := 25) (L' := 4) rfl (zTb t_Scales_init 25 rfl) lf_7_34 rfl (Or.inr ⟨_, rfl⟩) (by decide) (fun q => by cases q) (Or.inr ⟨rfl, rfl, rfl, zs2 154 rfl⟩) (h.2))))
set_option maxRecDepth 20000 in
theorem s_Scales_init_52 {X : zX} {l : Launch} {d d1 bc bs : Nat} {a0 : Int} {μ : zM} {Q : Option zV → zM → Prop} (hdd : d1 + 1 ≤ d)
    (h : ((1 ≤ bc ∧ 3 ≤ bs) ∧ ((1 ≤ bc - 1 ∧ 170 ≤ bs - 3) ∧ zCv X false l d1 1 170 y_Big_init [(2, 170, μ (-1) 0), (0, 0, 170)] (zal μ 0 170) (fun ν1 => zE X false l d ((bc - 1) - 1) ((bs - 3) - 170) y_Scales_init 66 [some (9, 0, a0), none] [] (zup ν1 a0 6 (μ (-1) 0)) Q)))) :
    zE X false l d bc bs y_Scales_init 52 [some (9, 0, a0), none] [] μ Q :=
  zE_aload_n (zTb t_Scales_init 26 rfl) rfl (zD_new (t := 0) (L := 170) h.1 (zTb t_Scales_init 27 rfl) (by decide) (by decide) (zs2 146 rfl) (zs2 82 rfl) li_Big (zE_dup (zTb t_Scales_init 28 rfl) (by simp) (zE_sipush (zTb t_Scales_init 29 rfl) rfl (by decide) (by decide) (zD_calli (as := [(0, 0, 170)]) (rest := [(2, 170, μ (-1) 0), (9, 0, a0)]) h.2.1 rfl (zTb t_Scales_init 30 rfl) lm_Scales_37 (by decide) rfl np_Big_init hdd (Nat.le_of_ble_eq_true rfl) (zCv_use (fun ν1 k2 => zG_putr (t' := 0) (L' := 170) rfl (zTb t_Scales_init 31 rfl) lf_7_40 rfl (Or.inl ⟨_, rfl⟩) (by decide) (fun q => by cases q) (Or.inr ⟨rfl, rfl, rfl, zs2 155 rfl⟩) (k2)) h.2.2)))))
set_option maxRecDepth 20000 in
theorem s_Scales_init_66 {X : zX} {l : Launch} {d d1 bc bs : Nat} {a0 : Int} {μ : zM} {Q : Option zV → zM → Prop} (hdd : d1 + 1 ≤ d)
    (h : ((1 ≤ bc ∧ 3 ≤ bs) ∧ ((1 ≤ bc - 1 ∧ 170 ≤ bs - 3) ∧ zCv X false l d1 1 170 y_Big_init [(2, 170, μ (-1) 0), (0, 0, 170)] (zal μ 0 170) (fun ν1 => zE X false l d ((bc - 1) - 1) ((bs - 3) - 170) y_Scales_init 80 [some (9, 0, a0), none] [] (zup ν1 a0 7 (μ (-1) 0)) Q)))) :
    zE X false l d bc bs y_Scales_init 66 [some (9, 0, a0), none] [] μ Q :=
  zE_aload_n (zTb t_Scales_init 32 rfl) rfl (zD_new (t := 0) (L := 170) h.1 (zTb t_Scales_init 33 rfl) (by decide) (by decide) (zs2 146 rfl) (zs2 82 rfl) li_Big (zE_dup (zTb t_Scales_init 34 rfl) (by simp) (zE_sipush (zTb t_Scales_init 35 rfl) rfl (by decide) (by decide) (zD_calli (as := [(0, 0, 170)]) (rest := [(2, 170, μ (-1) 0), (9, 0, a0)]) h.2.1 rfl (zTb t_Scales_init 36 rfl) lm_Scales_37 (by decide) rfl np_Big_init hdd (Nat.le_of_ble_eq_true rfl) (zCv_use (fun ν1 k2 => zG_putr (t' := 0) (L' := 170) rfl (zTb t_Scales_init 37 rfl) lf_7_44 rfl (Or.inl ⟨_, rfl⟩) (by decide) (fun q => by cases q) (Or.inr ⟨rfl, rfl, rfl, zs2 156 rfl⟩) (k2)) h.2.2)))))
set_option maxRecDepth 20000 in
theorem s_Scales_init_80 {X : zX} {l : Launch} {d d1 bc bs : Nat} {a0 : Int} {μ : zM} {Q : Option zV → zM → Prop} (hdd : d1 + 1 ≤ d)
    (h : ((1 ≤ bc ∧ 3 ≤ bs) ∧ ((1 ≤ bc - 1 ∧ 170 ≤ bs - 3) ∧ zCv X false l d1 1 170 y_Big_init [(2, 170, μ (-1) 0), (0, 0, 170)] (zal μ 0 170) (fun ν1 => zE X false l d ((bc - 1) - 1) ((bs - 3) - 170) y_Scales_init 94 [some (9, 0, a0), none] [] (zup ν1 a0 8 (μ (-1) 0)) Q)))) :
    zE X false l d bc bs y_Scales_init 80 [some (9, 0, a0), none] [] μ Q :=
  zE_aload_n (zTb t_Scales_init 38 rfl) rfl (zD_new (t := 0) (L := 170) h.1 (zTb t_Scales_init 39 rfl) (by decide) (by decide) (zs2 146 rfl) (zs2 82 rfl) li_Big (zE_dup (zTb t_Scales_init 40 rfl) (by simp) (zE_sipush (zTb t_Scales_init 41 rfl) rfl (by decide) (by decide) (zD_calli (as := [(0, 0, 170)]) (rest := [(2, 170, μ (-1) 0), (9, 0, a0)]) h.2.1 rfl (zTb t_Scales_init 42 rfl) lm_Scales_37 (by decide) rfl np_Big_init hdd (Nat.le_of_ble_eq_true rfl) (zCv_use (fun ν1 k2 => zG_putr (t' := 0) (L' := 170) rfl (zTb t_Scales_init 43 rfl) lf_7_47 rfl (Or.inl ⟨_, rfl⟩) (by decide) (fun q => by cases q) (Or.inr ⟨rfl, rfl, rfl, zs2 157 rfl⟩) (k2)) h.2.2)))))
set_option maxRecDepth 20000 in
theorem s_Scales_init_94 {X : zX} {l : Launch} {d bc bs : Nat} {a0 : Int} {μ : zM} {Q : Option zV → zM → Prop}
    (h : zE X false l d bc bs y_Scales_init 96 [some (9, 0, a0), some (0, 0, 0)] [] μ Q) :
    zE X false l d bc bs y_Scales_init 94 [some (9, 0, a0), none] [] μ Q :=
  zE_iconst (zTb t_Scales_init 44 rfl) (by decide) (by decide) (zE_istore_n (ls' := [some (9, 0, a0), some (0, 0, 0)]) (zTb t_Scales_init 45 rfl) rfl (by decide) (h))
set_option maxRecDepth 20000 in
theorem s_Scales_init_96 {X : zX} {l : Launch} {d bc bs : Nat} {a0 x1 : Int} {μ : zM} {Q : Option zV → zM → Prop}
    (h : ((4 ≤ x1 → Q none μ) ∧ (¬ 4 ≤ x1 → zE X false l d bc bs y_Scales_init 101 [some (9, 0, a0), some (0, 0, x1)] [] μ Q))) :
    zE X false l d bc bs y_Scales_init 96 [some (9, 0, a0), some (0, 0, x1)] [] μ Q :=
  zE_iload_n (zTb t_Scales_init 46 rfl) rfl (zE_iconst (zTb t_Scales_init 47 rfl) (by decide) (by decide) (zE_icmpge (zTb t_Scales_init 48 rfl) rfl (fun c1 => zE_ret (zTb t_Scales_init 83 rfl) rfl (h.1 c1)) (fun c1 => (h.2 c1))))
set_option maxRecDepth 20000 in
theorem s_Scales_init_101 {X : zX} {l : Launch} {d d1 bc bs : Nat} {a0 x1 : Int} {μ : zM} {Q : Option zV → zM → Prop} (hdd : d1 + 1 ≤ d)
    (h : ((0 ≤ μ a0 2) ∧ ((1 ≤ bc ∧ 3 ≤ bs) ∧ ((1 ≤ bc - 1 ∧ 170 ≤ bs - 3) ∧ zCv X false l d1 1 170 y_Big_init [(2, 170, μ (-1) 0), (0, 0, 170)] (zal μ 0 170) (fun ν1 => (((0 : Int) ≤ x1 ∧ (x1 : Int) < 4) ∧ zE X false l d ((bc - 1) - 1) ((bs - 3) - 170) y_Scales_init 117 [some (9, 0, a0), some (0, 0, x1)] [] (zup ν1 (μ a0 2) x1 (μ (-1) 0)) Q)))))) :
    zE X false l d bc bs y_Scales_init 101 [some (9, 0, a0), some (0, 0, x1)] [] μ Q :=
  zE_aload_n (zTb t_Scales_init 49 rfl) rfl (zG_getf rfl (zTb t_Scales_init 50 rfl) lf_7_24 rfl (zE_nn (t := 22) h.1 (zE_iload_n (zTb t_Scales_init 51 rfl) rfl (zD_new (t := 0) (L := 170) h.2.1 (zTb t_Scales_init 52 rfl) (by decide) (by decide) (zs2 146 rfl) (zs2 82 rfl) li_Big (zE_dup (zTb t_Scales_init 53 rfl) (by simp) (zE_sipush (zTb t_Scales_init 54 rfl) rfl (by decide) (by decide) (zD_calli (as := [(0, 0, 170)]) (rest := [(2, 170, μ (-1) 0), (0, 0, x1), (24, 4, μ a0 2)]) h.2.2.1 rfl (zTb t_Scales_init 55 rfl) lm_Scales_37 (by decide) rfl np_Big_init hdd (Nat.le_of_ble_eq_true rfl) (zCv_use (fun ν1 k2 => zE_aast (t := 22) (t' := 0) (L' := 170) (zTb t_Scales_init 56 rfl) (by decide) (by decide) (fun _ => rfl) rfl (by decide) k2.1 (k2.2)) h.2.2.2))))))))
set_option maxRecDepth 20000 in
theorem s_Scales_init_117 {X : zX} {l : Launch} {d d1 bc bs : Nat} {a0 x1 : Int} {μ : zM} {Q : Option zV → zM → Prop} (hdd : d1 + 1 ≤ d)
    (h : ((0 ≤ μ a0 3) ∧ ((1 ≤ bc ∧ 3 ≤ bs) ∧ ((1 ≤ bc - 1 ∧ 170 ≤ bs - 3) ∧ zCv X false l d1 1 170 y_Big_init [(2, 170, μ (-1) 0), (0, 0, 170)] (zal μ 0 170) (fun ν1 => (((0 : Int) ≤ x1 ∧ (x1 : Int) < 4) ∧ zE X false l d ((bc - 1) - 1) ((bs - 3) - 170) y_Scales_init 133 [some (9, 0, a0), some (0, 0, x1)] [] (zup ν1 (μ a0 3) x1 (μ (-1) 0)) Q)))))) :
    zE X false l d bc bs y_Scales_init 117 [some (9, 0, a0), some (0, 0, x1)] [] μ Q :=
  zE_aload_n (zTb t_Scales_init 57 rfl) rfl (zG_getf rfl (zTb t_Scales_init 58 rfl) lf_7_28 rfl (zE_nn (t := 23) h.1 (zE_iload_n (zTb t_Scales_init 59 rfl) rfl (zD_new (t := 0) (L := 170) h.2.1 (zTb t_Scales_init 60 rfl) (by decide) (by decide) (zs2 146 rfl) (zs2 82 rfl) li_Big (zE_dup (zTb t_Scales_init 61 rfl) (by simp) (zE_sipush (zTb t_Scales_init 62 rfl) rfl (by decide) (by decide) (zD_calli (as := [(0, 0, 170)]) (rest := [(2, 170, μ (-1) 0), (0, 0, x1), (25, 4, μ a0 3)]) h.2.2.1 rfl (zTb t_Scales_init 63 rfl) lm_Scales_37 (by decide) rfl np_Big_init hdd (Nat.le_of_ble_eq_true rfl) (zCv_use (fun ν1 k2 => zE_aast (t := 23) (t' := 0) (L' := 170) (zTb t_Scales_init 64 rfl) (by decide) (by decide) (fun _ => rfl) rfl (by decide) k2.1 (k2.2)) h.2.2.2))))))))
set_option maxRecDepth 20000 in
theorem s_Scales_init_133 {X : zX} {l : Launch} {d d1 bc bs : Nat} {a0 x1 : Int} {μ : zM} {Q : Option zV → zM → Prop} (hdd : d1 + 1 ≤ d)
    (h : ((0 ≤ μ a0 4) ∧ ((1 ≤ bc ∧ 3 ≤ bs) ∧ ((1 ≤ bc - 1 ∧ 15 ≤ bs - 3) ∧ zCv X false l d1 1 15 y_Big_init [(2, 15, μ (-1) 0), (0, 0, 15)] (zal μ 0 15) (fun ν1 => (((0 : Int) ≤ x1 ∧ (x1 : Int) < 4) ∧ zE X false l d ((bc - 1) - 1) ((bs - 3) - 15) y_Scales_init 148 [some (9, 0, a0), some (0, 0, x1)] [] (zup ν1 (μ a0 4) x1 (μ (-1) 0)) Q)))))) :
    zE X false l d bc bs y_Scales_init 133 [some (9, 0, a0), some (0, 0, x1)] [] μ Q :=
  zE_aload_n (zTb t_Scales_init 65 rfl) rfl (zG_getf rfl (zTb t_Scales_init 66 rfl) lf_7_31 rfl (zE_nn (t := 24) h.1 (zE_iload_n (zTb t_Scales_init 67 rfl) rfl (zD_new (t := 0) (L := 15) h.2.1 (zTb t_Scales_init 68 rfl) (by decide) (by decide) (zs2 146 rfl) (zs2 82 rfl) li_Big (zE_dup (zTb t_Scales_init 69 rfl) (by simp) (zE_bipush (zTb t_Scales_init 70 rfl) rfl (by decide) (by decide) (zD_calli (as := [(0, 0, 15)]) (rest := [(2, 15, μ (-1) 0), (0, 0, x1), (26, 4, μ a0 4)]) h.2.2.1 rfl (zTb t_Scales_init 71 rfl) lm_Scales_37 (by decide) rfl np_Big_init hdd (Nat.le_of_ble_eq_true rfl) (zCv_use (fun ν1 k2 => zE_aast (t := 24) (t' := 0) (L' := 15) (zTb t_Scales_init 72 rfl) (by decide) (by decide) (fun _ => rfl) rfl (by decide) k2.1 (k2.2)) h.2.2.2))))))))
set_option maxRecDepth 20000 in
theorem s_Scales_init_148 {X : zX} {l : Launch} {d d1 bc bs : Nat} {a0 x1 : Int} {μ : zM} {Q : Option zV → zM → Prop} (hdd : d1 + 1 ≤ d)
    (h : ((0 ≤ μ a0 5) ∧ ((1 ≤ bc ∧ 3 ≤ bs) ∧ ((1 ≤ bc - 1 ∧ 15 ≤ bs - 3) ∧ zCv X false l d1 1 15 y_Big_init [(2, 15, μ (-1) 0), (0, 0, 15)] (zal μ 0 15) (fun ν1 => (((0 : Int) ≤ x1 ∧ (x1 : Int) < 4) ∧ zE X false l d ((bc - 1) - 1) ((bs - 3) - 15) y_Scales_init 96 [some (9, 0, a0), some (0, 0, zw (x1 + 1))] [] (zup ν1 (μ a0 5) x1 (μ (-1) 0)) Q)))))) :
    zE X false l d bc bs y_Scales_init 148 [some (9, 0, a0), some (0, 0, x1)] [] μ Q :=
  zE_aload_n (zTb t_Scales_init 73 rfl) rfl (zG_getf rfl (zTb t_Scales_init 74 rfl) lf_7_34 rfl (zE_nn (t := 25) h.1 (zE_iload_n (zTb t_Scales_init 75 rfl) rfl (zD_new (t := 0) (L := 15) h.2.1 (zTb t_Scales_init 76 rfl) (by decide) (by decide) (zs2 146 rfl) (zs2 82 rfl) li_Big (zE_dup (zTb t_Scales_init 77 rfl) (by simp) (zE_bipush (zTb t_Scales_init 78 rfl) rfl (by decide) (by decide) (zD_calli (as := [(0, 0, 15)]) (rest := [(2, 15, μ (-1) 0), (0, 0, x1), (27, 4, μ a0 5)]) h.2.2.1 rfl (zTb t_Scales_init 79 rfl) lm_Scales_37 (by decide) rfl np_Big_init hdd (Nat.le_of_ble_eq_true rfl) (zCv_use (fun ν1 k2 => zE_aast (t := 25) (t' := 0) (L' := 15) (zTb t_Scales_init 80 rfl) (by decide) (by decide) (fun _ => rfl) rfl (by decide) k2.1 (zE_iinc (ls' := [some (9, 0, a0), some (0, 0, zw (x1 + 1))]) (zTb t_Scales_init 81 rfl) rfl rfl (by decide) (zE_goto (zTb t_Scales_init 82 rfl) rfl (k2.2)))) h.2.2.2))))))))
/-! Reckoner_init -/
set_option maxRecDepth 20000 in
theorem s_Reckoner_init_0 {X : zX} {l : Launch} {d bc bs : Nat} {a0 : Int} {μ : zM} {Q : Option zV → zM → Prop} (hd1 : 1 ≤ d)
    (h : zE X false l d bc bs y_Reckoner_init 4 [some (6, 0, a0), none] [] μ Q) :
    zE X false l d bc bs y_Reckoner_init 0 [some (6, 0, a0), none] [] μ Q :=
  zE_aload_n (zTb t_Reckoner_init 0 rfl) rfl (zE_obj (zTb t_Reckoner_init 1 rfl) (zs2 41 rfl) (zs1 26 rfl) (zs1 27 rfl) (by omega) (by decide) (Nat.le_of_ble_eq_true rfl) (h))
set_option maxRecDepth 20000 in
theorem s_Reckoner_init_4 {X : zX} {l : Launch} {d d1 bc bs : Nat} {a0 : Int} {μ : zM} {Q : Option zV → zM → Prop} (hdd : d1 + 1 ≤ d)
    (h : ((1 ≤ bc ∧ 8 ≤ bs) ∧ ((14 ≤ bc - 1 ∧ 142 ≤ bs - 8) ∧ zCv X false l d1 14 142 y_Scene_init [(10, 0, μ (-1) 0)] (zal μ 8 0) (fun ν1 => zE X false l d ((bc - 1) - 14) ((bs - 8) - 142) y_Reckoner_init 15 [some (6, 0, a0), none] [] (zup ν1 a0 0 (μ (-1) 0)) Q)))) :
    zE X false l d bc bs y_Reckoner_init 4 [some (6, 0, a0), none] [] μ Q :=
  zE_aload_n (zTb t_Reckoner_init 2 rfl) rfl (zD_new (t := 8) (L := 0) h.1 (zTb t_Reckoner_init 3 rfl) (by decide) (by decide) (zs2 42 rfl) (zs2 43 rfl) li_Scene (zE_dup (zTb t_Reckoner_init 4 rfl) (by simp) (zD_calli (as := []) (rest := [(10, 0, μ (-1) 0), (6, 0, a0)]) h.2.1 rfl (zTb t_Reckoner_init 5 rfl) lm_Reckoner_11 (by decide) rfl np_Scene_init hdd (Nat.le_of_ble_eq_true rfl) (zCv_use (fun ν1 k2 => zG_putr (t' := 8) (L' := 0) rfl (zTb t_Reckoner_init 6 rfl) lf_4_12 rfl (Or.inl ⟨_, rfl⟩) (by decide) (fun q => by cases q) (Or.inr ⟨rfl, rfl, rfl, zs2 100 rfl⟩) (k2)) h.2.2))))
set_option maxRecDepth 20000 in
theorem s_Reckoner_init_15 {X : zX} {l : Launch} {d bc bs : Nat} {a0 : Int} {μ : zM} {Q : Option zV → zM → Prop}
    (h : zE X false l d bc bs y_Reckoner_init 20 [some (6, 0, a0), none] [] (zup μ a0 1 ((-1))) Q) :
    zE X false l d bc bs y_Reckoner_init 15 [some (6, 0, a0), none] [] μ Q :=
  zE_aload_n (zTb t_Reckoner_init 7 rfl) rfl (zE_iconst (zTb t_Reckoner_init 8 rfl) (by decide) (by decide) (zG_puti rfl (zTb t_Reckoner_init 9 rfl) lf_4_18 rfl rfl (fun q => by cases q) (Or.inl rfl) (h)))
set_option maxRecDepth 20000 in
theorem s_Reckoner_init_20 {X : zX} {l : Launch} {d bc bs : Nat} {a0 : Int} {μ : zM} {Q : Option zV → zM → Prop}
    (h : zE X false l d bc bs y_Reckoner_init 25 [some (6, 0, a0), none] [] (zup μ a0 2 0) Q) :
    zE X false l d bc bs y_Reckoner_init 20 [some (6, 0, a0), none] [] μ Q :=
  zE_aload_n (zTb t_Reckoner_init 10 rfl) rfl (zE_iconst (zTb t_Reckoner_init 11 rfl) (by decide) (by decide) (zG_puti rfl (zTb t_Reckoner_init 12 rfl) lf_4_22 rfl rfl (fun q => by cases q) (Or.inl rfl) (h)))
set_option maxRecDepth 20000 in
theorem s_Reckoner_init_25 {X : zX} {l : Launch} {d bc bs : Nat} {a0 : Int} {μ : zM} {Q : Option zV → zM → Prop}
    (h : zE X false l d bc bs y_Reckoner_init 30 [some (6, 0, a0), none] [] (zup μ a0 3 0) Q) :
    zE X false l d bc bs y_Reckoner_init 25 [some (6, 0, a0), none] [] μ Q :=
  zE_aload_n (zTb t_Reckoner_init 13 rfl) rfl (zE_iconst (zTb t_Reckoner_init 14 rfl) (by decide) (by decide) (zG_puti rfl (zTb t_Reckoner_init 15 rfl) lf_4_25 rfl rfl (fun q => by cases q) (Or.inl rfl) (h)))
set_option maxRecDepth 20000 in
theorem s_Reckoner_init_30 {X : zX} {l : Launch} {d bc bs : Nat} {a0 : Int} {μ : zM} {Q : Option zV → zM → Prop}
    (h : ((1 ≤ bc ∧ 243 ≤ bs) ∧ zE X false l d (bc - 1) (bs - 243) y_Reckoner_init 40 [some (6, 0, a0), none] [] (zup (zal μ 20 243) a0 4 (μ (-1) 0)) Q)) :
    zE X false l d bc bs y_Reckoner_init 30 [some (6, 0, a0), none] [] μ Q :=
  zE_aload_n (zTb t_Reckoner_init 16 rfl) rfl (zE_sipush (zTb t_Reckoner_init 17 rfl) rfl (by decide) (by decide) (zD_anew (t := 20) (t' := 0) (L := 243) h.1 (zTb t_Reckoner_init 18 rfl) (by decide) (by decide) rfl (Or.inr (Or.inr (Or.inr rfl))) (fun _ _ => Nat.le_of_ble_eq_true rfl) (zs2 80 rfl) rfl (by decide) (zG_putr (t' := 20) (L' := 243) rfl (zTb t_Reckoner_init 19 rfl) lf_4_30 rfl (Or.inr ⟨_, rfl⟩) (by decide) (fun q => by cases q) (Or.inr ⟨rfl, rfl, rfl, zs2 106 rfl⟩) (h.2))))
set_option maxRecDepth 20000 in
theorem s_Reckoner_init_40 {X : zX} {l : Launch} {d bc bs : Nat} {a0 : Int} {μ : zM} {Q : Option zV → zM → Prop}
    (h : ((1 ≤ bc ∧ 243 ≤ bs) ∧ zE X false l d (bc - 1) (bs - 243) y_Reckoner_init 50 [some (6, 0, a0), none] [] (zup (zal μ 21 243) a0 5 (μ (-1) 0)) Q)) :
    zE X false l d bc bs y_Reckoner_init 40 [some (6, 0, a0), none] [] μ Q :=
  zE_aload_n (zTb t_Reckoner_init 20 rfl) rfl (zE_sipush (zTb t_Reckoner_init 21 rfl) rfl (by decide) (by decide) (zD_anew (t := 21) (t' := 0) (L := 243) h.1 (zTb t_Reckoner_init 22 rfl) (by decide) (by decide) rfl (Or.inr (Or.inr (Or.inr rfl))) (fun _ _ => Nat.le_of_ble_eq_true rfl) (zs2 80 rfl) rfl (by decide) (zG_putr (t' := 21) (L' := 243) rfl (zTb t_Reckoner_init 23 rfl) lf_4_34 rfl (Or.inr ⟨_, rfl⟩) (by decide) (fun q => by cases q) (Or.inr ⟨rfl, rfl, rfl, zs2 107 rfl⟩) (h.2))))
set_option maxRecDepth 20000 in
theorem s_Reckoner_init_50 {X : zX} {l : Launch} {d bc bs : Nat} {a0 : Int} {μ : zM} {Q : Option zV → zM → Prop}
    (h : zE X false l d bc bs y_Reckoner_init 55 [some (6, 0, a0), none] [] (zup μ a0 6 0) Q) :
    zE X false l d bc bs y_Reckoner_init 50 [some (6, 0, a0), none] [] μ Q :=
  zE_aload_n (zTb t_Reckoner_init 24 rfl) rfl (zE_iconst (zTb t_Reckoner_init 25 rfl) (by decide) (by decide) (zG_putz rfl (zTb t_Reckoner_init 26 rfl) lf_4_37 rfl rfl (by decide) (fun q => by cases q) rfl (h)))
set_option maxRecDepth 20000 in
theorem s_Reckoner_init_55 {X : zX} {l : Launch} {d bc bs : Nat} {a0 : Int} {μ : zM} {Q : Option zV → zM → Prop}
    (h : ((1 ≤ bc ∧ 5 ≤ bs) ∧ zE X false l d (bc - 1) (bs - 5) y_Reckoner_init 62 [some (6, 0, a0), none] [] (zup (zal μ 12 5) a0 7 (μ (-1) 0)) Q)) :
    zE X false l d bc bs y_Reckoner_init 55 [some (6, 0, a0), none] [] μ Q :=
  zE_aload_n (zTb t_Reckoner_init 27 rfl) rfl (zE_iconst (zTb t_Reckoner_init 28 rfl) (by decide) (by decide) (zD_newa (t := 12) (L := 5) h.1 (zTb t_Reckoner_init 29 rfl) (Or.inl ⟨rfl, rfl⟩) rfl (by decide) (zs1 72 rfl) (zG_putr (t' := 12) (L' := 5) rfl (zTb t_Reckoner_init 30 rfl) lf_4_41 rfl (Or.inr ⟨_, rfl⟩) (by decide) (fun q => by cases q) (Or.inr ⟨rfl, rfl, rfl, zs2 109 rfl⟩) (h.2))))
set_option maxRecDepth 20000 in
theorem s_Reckoner_init_62 {X : zX} {l : Launch} {d d1 bc bs : Nat} {a0 : Int} {μ : zM} {Q : Option zV → zM → Prop} (hdd : d1 + 1 ≤ d)
    (h : ((1 ≤ bc ∧ 3 ≤ bs) ∧ ((1 ≤ bc - 1 ∧ 15 ≤ bs - 3) ∧ zCv X false l d1 1 15 y_Big_init [(2, 15, μ (-1) 0), (0, 0, 15)] (zal μ 0 15) (fun ν1 => zE X false l d ((bc - 1) - 1) ((bs - 3) - 15) y_Reckoner_init 75 [some (6, 0, a0), none] [] (zup ν1 a0 8 (μ (-1) 0)) Q)))) :
    zE X false l d bc bs y_Reckoner_init 62 [some (6, 0, a0), none] [] μ Q :=
  zE_aload_n (zTb t_Reckoner_init 31 rfl) rfl (zD_new (t := 0) (L := 15) h.1 (zTb t_Reckoner_init 32 rfl) (by decide) (by decide) (zs2 80 rfl) (zs2 82 rfl) li_Big (zE_dup (zTb t_Reckoner_init 33 rfl) (by simp) (zE_bipush (zTb t_Reckoner_init 34 rfl) rfl (by decide) (by decide) (zD_calli (as := [(0, 0, 15)]) (rest := [(2, 15, μ (-1) 0), (6, 0, a0)]) h.2.1 rfl (zTb t_Reckoner_init 35 rfl) lm_Reckoner_45 (by decide) rfl np_Big_init hdd (Nat.le_of_ble_eq_true rfl) (zCv_use (fun ν1 k2 => zG_putr (t' := 0) (L' := 15) rfl (zTb t_Reckoner_init 36 rfl) lf_4_48 rfl (Or.inl ⟨_, rfl⟩) (by decide) (fun q => by cases q) (Or.inr ⟨rfl, rfl, rfl, zs2 110 rfl⟩) (k2)) h.2.2)))))
set_option maxRecDepth 20000 in
theorem s_Reckoner_init_75 {X : zX} {l : Launch} {d d1 bc bs : Nat} {a0 : Int} {μ : zM} {Q : Option zV → zM → Prop} (hdd : d1 + 1 ≤ d)
    (h : ((1 ≤ bc ∧ 3 ≤ bs) ∧ ((1 ≤ bc - 1 ∧ 15 ≤ bs - 3) ∧ zCv X false l d1 1 15 y_Big_init [(2, 15, μ (-1) 0), (0, 0, 15)] (zal μ 0 15) (fun ν1 => zE X false l d ((bc - 1) - 1) ((bs - 3) - 15) y_Reckoner_init 88 [some (6, 0, a0), none] [] (zup ν1 a0 9 (μ (-1) 0)) Q)))) :
    zE X false l d bc bs y_Reckoner_init 75 [some (6, 0, a0), none] [] μ Q :=
  zE_aload_n (zTb t_Reckoner_init 37 rfl) rfl (zD_new (t := 0) (L := 15) h.1 (zTb t_Reckoner_init 38 rfl) (by decide) (by decide) (zs2 80 rfl) (zs2 82 rfl) li_Big (zE_dup (zTb t_Reckoner_init 39 rfl) (by simp) (zE_bipush (zTb t_Reckoner_init 40 rfl) rfl (by decide) (by decide) (zD_calli (as := [(0, 0, 15)]) (rest := [(2, 15, μ (-1) 0), (6, 0, a0)]) h.2.1 rfl (zTb t_Reckoner_init 41 rfl) lm_Reckoner_45 (by decide) rfl np_Big_init hdd (Nat.le_of_ble_eq_true rfl) (zCv_use (fun ν1 k2 => zG_putr (t' := 0) (L' := 15) rfl (zTb t_Reckoner_init 42 rfl) lf_4_52 rfl (Or.inl ⟨_, rfl⟩) (by decide) (fun q => by cases q) (Or.inr ⟨rfl, rfl, rfl, zs2 111 rfl⟩) (k2)) h.2.2)))))
set_option maxRecDepth 20000 in
theorem s_Reckoner_init_88 {X : zX} {l : Launch} {d d1 bc bs : Nat} {a0 : Int} {μ : zM} {Q : Option zV → zM → Prop} (hdd : d1 + 1 ≤ d)
    (h : ((1 ≤ bc ∧ 3 ≤ bs) ∧ ((1 ≤ bc - 1 ∧ 15 ≤ bs - 3) ∧ zCv X false l d1 1 15 y_Big_init [(2, 15, μ (-1) 0), (0, 0, 15)] (zal μ 0 15) (fun ν1 => zE X false l d ((bc - 1) - 1) ((bs - 3) - 15) y_Reckoner_init 101 [some (6, 0, a0), none] [] (zup ν1 a0 10 (μ (-1) 0)) Q)))) :
    zE X false l d bc bs y_Reckoner_init 88 [some (6, 0, a0), none] [] μ Q :=
  zE_aload_n (zTb t_Reckoner_init 43 rfl) rfl (zD_new (t := 0) (L := 15) h.1 (zTb t_Reckoner_init 44 rfl) (by decide) (by decide) (zs2 80 rfl) (zs2 82 rfl) li_Big (zE_dup (zTb t_Reckoner_init 45 rfl) (by simp) (zE_bipush (zTb t_Reckoner_init 46 rfl) rfl (by decide) (by decide) (zD_calli (as := [(0, 0, 15)]) (rest := [(2, 15, μ (-1) 0), (6, 0, a0)]) h.2.1 rfl (zTb t_Reckoner_init 47 rfl) lm_Reckoner_45 (by decide) rfl np_Big_init hdd (Nat.le_of_ble_eq_true rfl) (zCv_use (fun ν1 k2 => zG_putr (t' := 0) (L' := 15) rfl (zTb t_Reckoner_init 48 rfl) lf_4_55 rfl (Or.inl ⟨_, rfl⟩) (by decide) (fun q => by cases q) (Or.inr ⟨rfl, rfl, rfl, zs2 112 rfl⟩) (k2)) h.2.2)))))
set_option maxRecDepth 20000 in
theorem s_Reckoner_init_101 {X : zX} {l : Launch} {d d1 bc bs : Nat} {a0 : Int} {μ : zM} {Q : Option zV → zM → Prop} (hdd : d1 + 1 ≤ d)
    (h : ((1 ≤ bc ∧ 3 ≤ bs) ∧ ((1 ≤ bc - 1 ∧ 15 ≤ bs - 3) ∧ zCv X false l d1 1 15 y_Big_init [(2, 15, μ (-1) 0), (0, 0, 15)] (zal μ 0 15) (fun ν1 => zE X false l d ((bc - 1) - 1) ((bs - 3) - 15) y_Reckoner_init 114 [some (6, 0, a0), none] [] (zup ν1 a0 11 (μ (-1) 0)) Q)))) :
    zE X false l d bc bs y_Reckoner_init 101 [some (6, 0, a0), none] [] μ Q :=
  zE_aload_n (zTb t_Reckoner_init 49 rfl) rfl (zD_new (t := 0) (L := 15) h.1 (zTb t_Reckoner_init 50 rfl) (by decide) (by decide) (zs2 80 rfl) (zs2 82 rfl) li_Big (zE_dup (zTb t_Reckoner_init 51 rfl) (by simp) (zE_bipush (zTb t_Reckoner_init 52 rfl) rfl (by decide) (by decide) (zD_calli (as := [(0, 0, 15)]) (rest := [(2, 15, μ (-1) 0), (6, 0, a0)]) h.2.1 rfl (zTb t_Reckoner_init 53 rfl) lm_Reckoner_45 (by decide) rfl np_Big_init hdd (Nat.le_of_ble_eq_true rfl) (zCv_use (fun ν1 k2 => zG_putr (t' := 0) (L' := 15) rfl (zTb t_Reckoner_init 54 rfl) lf_4_58 rfl (Or.inl ⟨_, rfl⟩) (by decide) (fun q => by cases q) (Or.inr ⟨rfl, rfl, rfl, zs2 114 rfl⟩) (k2)) h.2.2)))))
set_option maxRecDepth 20000 in
theorem s_Reckoner_init_114 {X : zX} {l : Launch} {d d1 bc bs : Nat} {a0 : Int} {μ : zM} {Q : Option zV → zM → Prop} (hdd : d1 + 1 ≤ d)
    (h : ((1 ≤ bc ∧ 3 ≤ bs) ∧ ((1 ≤ bc - 1 ∧ 15 ≤ bs - 3) ∧ zCv X false l d1 1 15 y_Big_init [(2, 15, μ (-1) 0), (0, 0, 15)] (zal μ 0 15) (fun ν1 => zE X false l d ((bc - 1) - 1) ((bs - 3) - 15) y_Reckoner_init 127 [some (6, 0, a0), none] [] (zup ν1 a0 12 (μ (-1) 0)) Q)))) :
    zE X false l d bc bs y_Reckoner_init 114 [some (6, 0, a0), none] [] μ Q :=
  zE_aload_n (zTb t_Reckoner_init 55 rfl) rfl (zD_new (t := 0) (L := 15) h.1 (zTb t_Reckoner_init 56 rfl) (by decide) (by decide) (zs2 80 rfl) (zs2 82 rfl) li_Big (zE_dup (zTb t_Reckoner_init 57 rfl) (by simp) (zE_bipush (zTb t_Reckoner_init 58 rfl) rfl (by decide) (by decide) (zD_calli (as := [(0, 0, 15)]) (rest := [(2, 15, μ (-1) 0), (6, 0, a0)]) h.2.1 rfl (zTb t_Reckoner_init 59 rfl) lm_Reckoner_45 (by decide) rfl np_Big_init hdd (Nat.le_of_ble_eq_true rfl) (zCv_use (fun ν1 k2 => zG_putr (t' := 0) (L' := 15) rfl (zTb t_Reckoner_init 60 rfl) lf_4_61 rfl (Or.inl ⟨_, rfl⟩) (by decide) (fun q => by cases q) (Or.inr ⟨rfl, rfl, rfl, zs2 117 rfl⟩) (k2)) h.2.2)))))
set_option maxRecDepth 20000 in
theorem s_Reckoner_init_127 {X : zX} {l : Launch} {d bc bs : Nat} {a0 : Int} {μ : zM} {Q : Option zV → zM → Prop}
    (h : zE X false l d bc bs y_Reckoner_init 129 [some (6, 0, a0), some (0, 0, 0)] [] μ Q) :
    zE X false l d bc bs y_Reckoner_init 127 [some (6, 0, a0), none] [] μ Q :=
  zE_iconst (zTb t_Reckoner_init 61 rfl) (by decide) (by decide) (zE_istore_n (ls' := [some (6, 0, a0), some (0, 0, 0)]) (zTb t_Reckoner_init 62 rfl) rfl (by decide) (h))
set_option maxRecDepth 20000 in
theorem s_Reckoner_init_129 {X : zX} {l : Launch} {d bc bs : Nat} {a0 x1 : Int} {μ : zM} {Q : Option zV → zM → Prop}
    (h : ((243 ≤ x1 → Q none μ) ∧ (¬ 243 ≤ x1 → zE X false l d bc bs y_Reckoner_init 136 [some (6, 0, a0), some (0, 0, x1)] [] μ Q))) :
    zE X false l d bc bs y_Reckoner_init 129 [some (6, 0, a0), some (0, 0, x1)] [] μ Q :=
  zE_iload_n (zTb t_Reckoner_init 63 rfl) rfl (zE_sipush (zTb t_Reckoner_init 64 rfl) rfl (by decide) (by decide) (zE_icmpge (zTb t_Reckoner_init 65 rfl) rfl (fun c1 => zE_ret (zTb t_Reckoner_init 84 rfl) rfl (h.1 c1)) (fun c1 => (h.2 c1))))
set_option maxRecDepth 20000 in
theorem s_Reckoner_init_136 {X : zX} {l : Launch} {d d1 bc bs : Nat} {a0 x1 : Int} {μ : zM} {Q : Option zV → zM → Prop} (hdd : d1 + 1 ≤ d)
    (h : ((0 ≤ μ a0 4) ∧ ((1 ≤ bc ∧ 3 ≤ bs) ∧ ((1 ≤ bc - 1 ∧ 15 ≤ bs - 3) ∧ zCv X false l d1 1 15 y_Big_init [(2, 15, μ (-1) 0), (0, 0, 15)] (zal μ 0 15) (fun ν1 => (((0 : Int) ≤ x1 ∧ (x1 : Int) < 243) ∧ zE X false l d ((bc - 1) - 1) ((bs - 3) - 15) y_Reckoner_init 151 [some (6, 0, a0), some (0, 0, x1)] [] (zup ν1 (μ a0 4) x1 (μ (-1) 0)) Q)))))) :
    zE X false l d bc bs y_Reckoner_init 136 [some (6, 0, a0), some (0, 0, x1)] [] μ Q :=
  zE_aload_n (zTb t_Reckoner_init 66 rfl) rfl (zG_getf rfl (zTb t_Reckoner_init 67 rfl) lf_4_30 rfl (zE_nn (t := 20) h.1 (zE_iload_n (zTb t_Reckoner_init 68 rfl) rfl (zD_new (t := 0) (L := 15) h.2.1 (zTb t_Reckoner_init 69 rfl) (by decide) (by decide) (zs2 80 rfl) (zs2 82 rfl) li_Big (zE_dup (zTb t_Reckoner_init 70 rfl) (by simp) (zE_bipush (zTb t_Reckoner_init 71 rfl) rfl (by decide) (by decide) (zD_calli (as := [(0, 0, 15)]) (rest := [(2, 15, μ (-1) 0), (0, 0, x1), (22, 243, μ a0 4)]) h.2.2.1 rfl (zTb t_Reckoner_init 72 rfl) lm_Reckoner_45 (by decide) rfl np_Big_init hdd (Nat.le_of_ble_eq_true rfl) (zCv_use (fun ν1 k2 => zE_aast (t := 20) (t' := 0) (L' := 15) (zTb t_Reckoner_init 73 rfl) (by decide) (by decide) (fun _ => rfl) rfl (by decide) k2.1 (k2.2)) h.2.2.2))))))))
set_option maxRecDepth 20000 in
theorem s_Reckoner_init_151 {X : zX} {l : Launch} {d d1 bc bs : Nat} {a0 x1 : Int} {μ : zM} {Q : Option zV → zM → Prop} (hdd : d1 + 1 ≤ d)
    (h : ((0 ≤ μ a0 5) ∧ ((1 ≤ bc ∧ 3 ≤ bs) ∧ ((1 ≤ bc - 1 ∧ 15 ≤ bs - 3) ∧ zCv X false l d1 1 15 y_Big_init [(2, 15, μ (-1) 0), (0, 0, 15)] (zal μ 0 15) (fun ν1 => (((0 : Int) ≤ x1 ∧ (x1 : Int) < 243) ∧ zE X false l d ((bc - 1) - 1) ((bs - 3) - 15) y_Reckoner_init 129 [some (6, 0, a0), some (0, 0, zw (x1 + 1))] [] (zup ν1 (μ a0 5) x1 (μ (-1) 0)) Q)))))) :
    zE X false l d bc bs y_Reckoner_init 151 [some (6, 0, a0), some (0, 0, x1)] [] μ Q :=
  zE_aload_n (zTb t_Reckoner_init 74 rfl) rfl (zG_getf rfl (zTb t_Reckoner_init 75 rfl) lf_4_34 rfl (zE_nn (t := 21) h.1 (zE_iload_n (zTb t_Reckoner_init 76 rfl) rfl (zD_new (t := 0) (L := 15) h.2.1 (zTb t_Reckoner_init 77 rfl) (by decide) (by decide) (zs2 80 rfl) (zs2 82 rfl) li_Big (zE_dup (zTb t_Reckoner_init 78 rfl) (by simp) (zE_bipush (zTb t_Reckoner_init 79 rfl) rfl (by decide) (by decide) (zD_calli (as := [(0, 0, 15)]) (rest := [(2, 15, μ (-1) 0), (0, 0, x1), (23, 243, μ a0 5)]) h.2.2.1 rfl (zTb t_Reckoner_init 80 rfl) lm_Reckoner_45 (by decide) rfl np_Big_init hdd (Nat.le_of_ble_eq_true rfl) (zCv_use (fun ν1 k2 => zE_aast (t := 21) (t' := 0) (L' := 15) (zTb t_Reckoner_init 81 rfl) (by decide) (by decide) (fun _ => rfl) rfl (by decide) k2.1 (zE_iinc (ls' := [some (6, 0, a0), some (0, 0, zw (x1 + 1))]) (zTb t_Reckoner_init 82 rfl) rfl rfl (by decide) (zE_goto (zTb t_Reckoner_init 83 rfl) rfl (k2.2)))) h.2.2.2))))))))
/-! Scene_init -/
set_option maxRecDepth 20000 in
theorem s_Scene_init_0 {X : zX} {l : Launch} {d bc bs : Nat} {a0 : Int} {μ : zM} {Q : Option zV → zM → Prop} (hd1 : 1 ≤ d)
    (h : zE X false l d bc bs y_Scene_init 4 [some (10, 0, a0)] [] μ Q) :
    zE X false l d bc bs y_Scene_init 0 [some (10, 0, a0)] [] μ Q :=
  zE_aload_n (zTb t_Scene_init 0 rfl) rfl (zE_obj (zTb t_Scene_init 1 rfl) (zs2 47 rfl) (zs1 26 rfl) (zs1 27 rfl) (by omega) (by decide) (Nat.le_of_ble_eq_true rfl) (h))
set_option maxRecDepth 20000 in
theorem s_Scene_init_4 {X : zX} {l : Launch} {d d1 bc bs : Nat} {a0 : Int} {μ : zM} {Q : Option zV → zM → Prop} (hdd : d1 + 1 ≤ d)
    (h : ((1 ≤ bc ∧ 6 ≤ bs) ∧ ((5 ≤ bc - 1 ∧ 25 ≤ bs - 6) ∧ zCv X false l d1 5 25 y_Plan_init [(4, 0, μ (-1) 0)] (zal μ 2 0) (fun ν1 => zE X false l d ((bc - 1) - 5) ((bs - 6) - 25) y_Scene_init 15 [some (10, 0, a0)] [] (zup ν1 a0 0 (μ (-1) 0)) Q)))) :
    zE X false l d bc bs y_Scene_init 4 [some (10, 0, a0)] [] μ Q :=
  zE_aload_n (zTb t_Scene_init 2 rfl) rfl (zD_new (t := 2) (L := 0) h.1 (zTb t_Scene_init 3 rfl) (by decide) (by decide) (zs2 48 rfl) (zs1 73 rfl) li_Plan (zE_dup (zTb t_Scene_init 4 rfl) (by simp) (zD_calli (as := []) (rest := [(4, 0, μ (-1) 0), (10, 0, a0)]) h.2.1 rfl (zTb t_Scene_init 5 rfl) lm_Scene_11 (by decide) rfl np_Plan_init hdd (Nat.le_of_ble_eq_true rfl) (zCv_use (fun ν1 k2 => zG_putr (t' := 2) (L' := 0) rfl (zTb t_Scene_init 6 rfl) lf_8_12 rfl (Or.inl ⟨_, rfl⟩) (by decide) (fun q => by cases q) (Or.inr ⟨rfl, rfl, rfl, zs2 51 rfl⟩) (k2)) h.2.2))))
set_option maxRecDepth 20000 in
theorem s_Scene_init_15 {X : zX} {l : Launch} {d bc bs : Nat} {a0 : Int} {μ : zM} {Q : Option zV → zM → Prop}
    (h : ((4 ≤ bc ∧ 18 ≤ bs) ∧ zE X false l d (bc - 4) (bs - 18) y_Scene_init 25 [some (10, 0, a0)] [] (zup (zmu μ) a0 1 (μ (-1) 0)) Q)) :
    zE X false l d bc bs y_Scene_init 15 [some (10, 0, a0)] [] μ Q :=
  zE_aload_n (zTb t_Scene_init 7 rfl) rfl (zE_iconst (zTb t_Scene_init 8 rfl) (by decide) (by decide) (zE_iconst (zTb t_Scene_init 9 rfl) (by decide) (by decide) (zD_multi h.1 (zTb t_Scene_init 10 rfl) (zs2 50 rfl) (zs1 72 rfl) (zG_putr (t' := 18) (L' := 3) rfl (zTb t_Scene_init 11 rfl) lf_8_20 rfl (Or.inr ⟨_, rfl⟩) (by decide) (fun q => by cases q) (Or.inr ⟨rfl, rfl, rfl, zs2 54 rfl⟩) (h.2)))))
set_option maxRecDepth 20000 in
theorem s_Scene_init_25 {X : zX} {l : Launch} {d bc bs : Nat} {a0 : Int} {μ : zM} {Q : Option zV → zM → Prop}
    (h : ((1 ≤ bc ∧ 5 ≤ bs) ∧ zE X false l d (bc - 1) (bs - 5) y_Scene_init 32 [some (10, 0, a0)] [] (zup (zal μ 12 5) a0 2 (μ (-1) 0)) Q)) :
    zE X false l d bc bs y_Scene_init 25 [some (10, 0, a0)] [] μ Q :=
  zE_aload_n (zTb t_Scene_init 12 rfl) rfl (zE_iconst (zTb t_Scene_init 13 rfl) (by decide) (by decide) (zD_newa (t := 12) (L := 5) h.1 (zTb t_Scene_init 14 rfl) (Or.inl ⟨rfl, rfl⟩) rfl (by decide) (zs1 72 rfl) (zG_putr (t' := 12) (L' := 5) rfl (zTb t_Scene_init 15 rfl) lf_8_23 rfl (Or.inr ⟨_, rfl⟩) (by decide) (fun q => by cases q) (Or.inr ⟨rfl, rfl, rfl, zs2 55 rfl⟩) (h.2))))
set_option maxRecDepth 20000 in
theorem s_Scene_init_32 {X : zX} {l : Launch} {d bc bs : Nat} {a0 : Int} {μ : zM} {Q : Option zV → zM → Prop}
    (h : ((1 ≤ bc ∧ 12 ≤ bs) ∧ zE X false l d (bc - 1) (bs - 12) y_Scene_init 40 [some (10, 0, a0)] [] (zup (zal μ 12 12) a0 3 (μ (-1) 0)) Q)) :
    zE X false l d bc bs y_Scene_init 32 [some (10, 0, a0)] [] μ Q :=
  zE_aload_n (zTb t_Scene_init 16 rfl) rfl (zE_bipush (zTb t_Scene_init 17 rfl) rfl (by decide) (by decide) (zD_newa (t := 12) (L := 12) h.1 (zTb t_Scene_init 18 rfl) (Or.inl ⟨rfl, rfl⟩) rfl (by decide) (zs1 72 rfl) (zG_putr (t' := 12) (L' := 12) rfl (zTb t_Scene_init 19 rfl) lf_8_27 rfl (Or.inr ⟨_, rfl⟩) (by decide) (fun q => by cases q) (Or.inr ⟨rfl, rfl, rfl, zs2 56 rfl⟩) (h.2))))
set_option maxRecDepth 20000 in
theorem s_Scene_init_40 {X : zX} {l : Launch} {d bc bs : Nat} {a0 : Int} {μ : zM} {Q : Option zV → zM → Prop}
    (h : zE X false l d bc bs y_Scene_init 45 [some (10, 0, a0)] [] (zup μ a0 4 ((-1))) Q) :
    zE X false l d bc bs y_Scene_init 40 [some (10, 0, a0)] [] μ Q :=
  zE_aload_n (zTb t_Scene_init 20 rfl) rfl (zE_null (t := 1) (L := 0) (zTb t_Scene_init 21 rfl) (zG_putn (t' := 1) (L' := 0) rfl (zTb t_Scene_init 22 rfl) lf_8_30 rfl (Or.inl ⟨_, rfl⟩) (fun q => by cases q) rfl (h)))
set_option maxRecDepth 20000 in
theorem s_Scene_init_45 {X : zX} {l : Launch} {d bc bs : Nat} {a0 : Int} {μ : zM} {Q : Option zV → zM → Prop}
    (h : zE X false l d bc bs y_Scene_init 50 [some (10, 0, a0)] [] (zup μ a0 5 ((-1))) Q) :
    zE X false l d bc bs y_Scene_init 45 [some (10, 0, a0)] [] μ Q :=
  zE_aload_n (zTb t_Scene_init 23 rfl) rfl (zE_iconst (zTb t_Scene_init 24 rfl) (by decide) (by decide) (zG_puti rfl (zTb t_Scene_init 25 rfl) lf_8_34 rfl rfl (fun q => by cases q) (Or.inl rfl) (h)))
set_option maxRecDepth 20000 in
theorem s_Scene_init_50 {X : zX} {l : Launch} {d bc bs : Nat} {a0 : Int} {μ : zM} {Q : Option zV → zM → Prop}
    (h : ((1 ≤ bc ∧ 12 ≤ bs) ∧ zE X false l d (bc - 1) (bs - 12) y_Scene_init 58 [some (10, 0, a0)] [] (zup (zal μ 12 12) a0 6 (μ (-1) 0)) Q)) :
    zE X false l d bc bs y_Scene_init 50 [some (10, 0, a0)] [] μ Q :=
  zE_aload_n (zTb t_Scene_init 26 rfl) rfl (zE_bipush (zTb t_Scene_init 27 rfl) rfl (by decide) (by decide) (zD_newa (t := 12) (L := 12) h.1 (zTb t_Scene_init 28 rfl) (Or.inl ⟨rfl, rfl⟩) rfl (by decide) (zs1 72 rfl) (zG_putr (t' := 12) (L' := 12) rfl (zTb t_Scene_init 29 rfl) lf_8_38 rfl (Or.inr ⟨_, rfl⟩) (by decide) (fun q => by cases q) (Or.inr ⟨rfl, rfl, rfl, zs2 60 rfl⟩) (h.2))))
set_option maxRecDepth 20000 in
theorem s_Scene_init_58 {X : zX} {l : Launch} {d bc bs : Nat} {a0 : Int} {μ : zM} {Q : Option zV → zM → Prop}
    (h : ((1 ≤ bc ∧ 64 ≤ bs) ∧ Q none (zup (zal μ 13 64) a0 7 (μ (-1) 0)))) :
    zE X false l d bc bs y_Scene_init 58 [some (10, 0, a0)] [] μ Q :=
  zE_aload_n (zTb t_Scene_init 30 rfl) rfl (zE_bipush (zTb t_Scene_init 31 rfl) rfl (by decide) (by decide) (zD_newa (t := 13) (L := 64) h.1 (zTb t_Scene_init 32 rfl) (Or.inr (Or.inl ⟨rfl, rfl⟩)) rfl (by decide) (zs2 79 rfl) (zG_putr (t' := 13) (L' := 64) rfl (zTb t_Scene_init 33 rfl) lf_8_41 rfl (Or.inr ⟨_, rfl⟩) (by decide) (fun q => by cases q) (Or.inr ⟨rfl, rfl, rfl, zs2 61 rfl⟩) (zE_ret (zTb t_Scene_init 34 rfl) rfl h.2))))
/-! Big_init -/
set_option maxRecDepth 20000 in
theorem s_Big_init_0 {X : zX} {l : Launch} {d bc bs : Nat} {L0 : Nat} {a0 x1 : Int} {μ : zM} {Q : Option zV → zM → Prop} (hd1 : 1 ≤ d)
    (h : zE X false l d bc bs y_Big_init 4 [some (2, L0, a0), some (0, 0, x1)] [] μ Q) :
    zE X false l d bc bs y_Big_init 0 [some (2, L0, a0), some (0, 0, x1)] [] μ Q :=
  zE_aload_n (zTb t_Big_init 0 rfl) rfl (zE_obj (zTb t_Big_init 1 rfl) (zs2 86 rfl) (zs1 26 rfl) (zs1 27 rfl) (by omega) (by decide) (Nat.le_of_ble_eq_true rfl) (h))
set_option maxRecDepth 20000 in
theorem s_Big_init_4 {X : zX} {l : Launch} {d bc bs : Nat} {L0 : Nat} {a0 x1 : Int} {μ : zM} {Q : Option zV → zM → Prop}
    (h : zE X false l d bc bs y_Big_init 9 [some (2, L0, a0), some (0, 0, x1)] [] (zup μ a0 2 0) Q) :
    zE X false l d bc bs y_Big_init 4 [some (2, L0, a0), some (0, 0, x1)] [] μ Q :=
  zE_aload_n (zTb t_Big_init 2 rfl) rfl (zE_iconst (zTb t_Big_init 3 rfl) (by decide) (by decide) (zG_puti rfl (zTb t_Big_init 4 rfl) lf_0_7 rfl rfl (fun q => by cases q) (Or.inl rfl) (h)))
set_option maxRecDepth 20000 in
theorem s_Big_init_9 {X : zX} {l : Launch} {d bc bs : Nat} {L0 : Nat} {a0 x1 : Int} {μ : zM} {Q : Option zV → zM → Prop} (hd1 : 1 ≤ d)
    (h : zE X false l d bc bs y_Big_init 18 [some (2, L0, a0), none] [] (zup μ a0 0 (if (1 : Int) < x1 then (x1 : Int) else 1)) Q) :
    zE X false l d bc bs y_Big_init 9 [some (2, L0, a0), some (0, 0, x1)] [] μ Q :=
  zE_aload_n (zTb t_Big_init 5 rfl) rfl (zE_iconst (zTb t_Big_init 6 rfl) (by decide) (by decide) (zE_iload_n (zTb t_Big_init 7 rfl) rfl (zG_mmax (zs2 87 rfl) (zTb t_Big_init 8 rfl) (by omega) (Nat.le_of_ble_eq_true rfl) (zG_puti rfl (zTb t_Big_init 9 rfl) lf_0_19 rfl rfl (fun q => by cases q) (Or.inr ⟨rfl, rfl, rfl, zs2 88 rfl⟩) (zE_mask [true, false] rfl (h))))))
set_option maxRecDepth 20000 in
theorem s_Big_init_18 {X : zX} {l : Launch} {d bc bs : Nat} {L0 : Nat} {a0 : Int} {μ : zM} {Q : Option zV → zM → Prop}
    (h : ((1 ≤ bc ∧ L0 ≤ bs) ∧ (μ a0 0 = (L0 : Int) ∧ L0 < 60000000) ∧ Q none (zup (zal μ 12 L0) a0 1 (μ (-1) 0)))) :
    zE X false l d bc bs y_Big_init 18 [some (2, L0, a0), none] [] μ Q :=
  zE_aload_n (zTb t_Big_init 10 rfl) rfl (zE_aload_n (zTb t_Big_init 11 rfl) rfl (zG_getf rfl (zTb t_Big_init 12 rfl) lf_0_19 rfl (zD_newa (t := 12) (L := L0) h.1 (zTb t_Big_init 13 rfl) (Or.inl ⟨rfl, rfl⟩) h.2.1.1 h.2.1.2 (zs1 72 rfl) (zG_putr (t' := 12) (L' := L0) rfl (zTb t_Big_init 14 rfl) lf_0_22 rfl (Or.inr ⟨_, rfl⟩) (by decide) (fun q => by cases q) (Or.inr ⟨rfl, rfl, rfl, zs2 89 rfl⟩) (zE_ret (zTb t_Big_init 15 rfl) rfl h.2.2)))))
/-! M_init -/
set_option maxRecDepth 20000 in
theorem s_M_init_0 {X : zX} {l : Launch} {d bc bs : Nat} {a0 : Int} {μ : zM} {Q : Option zV → zM → Prop} (hd1 : 1 ≤ d)
    (h : zE X false l d bc bs y_M_init 4 [some (13, 0, a0), none] [] μ Q) :
    zE X false l d bc bs y_M_init 0 [some (13, 0, a0), none] [] μ Q :=
  zE_aload_n (zTb t_M_init 0 rfl) rfl (zE_obj (zTb t_M_init 1 rfl) (zs5 157 rfl) (zs1 26 rfl) (zs1 27 rfl) (by omega) (by decide) (Nat.le_of_ble_eq_true rfl) (h))
set_option maxRecDepth 20000 in
theorem s_M_init_4 {X : zX} {l : Launch} {d bc bs : Nat} {a0 : Int} {μ : zM} {Q : Option zV → zM → Prop}
    (h : ((1 ≤ bc ∧ 7 ≤ bs) ∧ zE X false l d (bc - 1) (bs - 7) y_M_init 12 [some (13, 0, a0), none] [] (zup (zal μ 12 7) a0 2 (μ (-1) 0)) Q)) :
    zE X false l d bc bs y_M_init 4 [some (13, 0, a0), none] [] μ Q :=
  zE_aload_n (zTb t_M_init 2 rfl) rfl (zE_bipush (zTb t_M_init 3 rfl) rfl (by decide) (by decide) (zD_newa (t := 12) (L := 7) h.1 (zTb t_M_init 4 rfl) (Or.inl ⟨rfl, rfl⟩) rfl (by decide) (zs1 72 rfl) (zG_putr (t' := 12) (L' := 7) rfl (zTb t_M_init 5 rfl) lf_11_7 rfl (Or.inr ⟨_, rfl⟩) (by decide) (fun q => by cases q) (Or.inr ⟨rfl, rfl, rfl, zs5 160 rfl⟩) (h.2))))
set_option maxRecDepth 20000 in
theorem s_M_init_12 {X : zX} {l : Launch} {d bc bs : Nat} {a0 : Int} {μ : zM} {Q : Option zV → zM → Prop}
    (h : ((1 ≤ bc ∧ 4080 ≤ bs) ∧ zE X false l d (bc - 1) (bs - 4080) y_M_init 21 [some (13, 0, a0), none] [] (zup (zal μ 12 4080) a0 3 (μ (-1) 0)) Q)) :
    zE X false l d bc bs y_M_init 12 [some (13, 0, a0), none] [] μ Q :=
  zE_aload_n (zTb t_M_init 6 rfl) rfl (zE_sipush (zTb t_M_init 7 rfl) rfl (by decide) (by decide) (zD_newa (t := 12) (L := 4080) h.1 (zTb t_M_init 8 rfl) (Or.inl ⟨rfl, rfl⟩) rfl (by decide) (zs1 72 rfl) (zG_putr (t' := 12) (L' := 4080) rfl (zTb t_M_init 9 rfl) lf_11_13 rfl (Or.inr ⟨_, rfl⟩) (by decide) (fun q => by cases q) (Or.inr ⟨rfl, rfl, rfl, zs5 161 rfl⟩) (h.2))))
set_option maxRecDepth 20000 in
theorem s_M_init_21 {X : zX} {l : Launch} {d bc bs : Nat} {a0 : Int} {μ : zM} {Q : Option zV → zM → Prop}
    (h : ((1 ≤ bc ∧ 8160 ≤ bs) ∧ zE X false l d (bc - 1) (bs - 8160) y_M_init 30 [some (13, 0, a0), none] [] (zup (zal μ 12 8160) a0 4 (μ (-1) 0)) Q)) :
    zE X false l d bc bs y_M_init 21 [some (13, 0, a0), none] [] μ Q :=
  zE_aload_n (zTb t_M_init 10 rfl) rfl (zE_sipush (zTb t_M_init 11 rfl) rfl (by decide) (by decide) (zD_newa (t := 12) (L := 8160) h.1 (zTb t_M_init 12 rfl) (Or.inl ⟨rfl, rfl⟩) rfl (by decide) (zs1 72 rfl) (zG_putr (t' := 12) (L' := 8160) rfl (zTb t_M_init 13 rfl) lf_11_16 rfl (Or.inr ⟨_, rfl⟩) (by decide) (fun q => by cases q) (Or.inr ⟨rfl, rfl, rfl, zs5 162 rfl⟩) (h.2))))
set_option maxRecDepth 20000 in
theorem s_M_init_30 {X : zX} {l : Launch} {d bc bs : Nat} {a0 : Int} {μ : zM} {Q : Option zV → zM → Prop}
    (h : ((1 ≤ bc ∧ 2 ≤ bs) ∧ zE X false l d (bc - 1) (bs - 2) y_M_init 37 [some (13, 0, a0), none] [] (zup (zal μ 14 2) a0 5 (μ (-1) 0)) Q)) :
    zE X false l d bc bs y_M_init 30 [some (13, 0, a0), none] [] μ Q :=
  zE_aload_n (zTb t_M_init 14 rfl) rfl (zE_iconst (zTb t_M_init 15 rfl) (by decide) (by decide) (zD_newa (t := 14) (L := 2) h.1 (zTb t_M_init 16 rfl) (Or.inr (Or.inr ⟨rfl, rfl⟩)) rfl (by decide) (zs1 157 rfl) (zG_putr (t' := 14) (L' := 2) rfl (zTb t_M_init 17 rfl) lf_11_19 rfl (Or.inr ⟨_, rfl⟩) (by decide) (fun q => by cases q) (Or.inr ⟨rfl, rfl, rfl, zs5 163 rfl⟩) (h.2))))
set_option maxRecDepth 20000 in
theorem s_M_init_37 {X : zX} {l : Launch} {d bc bs : Nat} {a0 : Int} {μ : zM} {Q : Option zV → zM → Prop}
    (h : ((1 ≤ bc ∧ 400 ≤ bs) ∧ zE X false l d (bc - 1) (bs - 400) y_M_init 46 [some (13, 0, a0), none] [] (zup (zal μ 12 400) a0 6 (μ (-1) 0)) Q)) :
    zE X false l d bc bs y_M_init 37 [some (13, 0, a0), none] [] μ Q :=
  zE_aload_n (zTb t_M_init 18 rfl) rfl (zE_sipush (zTb t_M_init 19 rfl) rfl (by decide) (by decide) (zD_newa (t := 12) (L := 400) h.1 (zTb t_M_init 20 rfl) (Or.inl ⟨rfl, rfl⟩) rfl (by decide) (zs1 72 rfl) (zG_putr (t' := 12) (L' := 400) rfl (zTb t_M_init 21 rfl) lf_11_23 rfl (Or.inr ⟨_, rfl⟩) (by decide) (fun q => by cases q) (Or.inr ⟨rfl, rfl, rfl, zs5 164 rfl⟩) (h.2))))
set_option maxRecDepth 20000 in
theorem s_M_init_46 {X : zX} {l : Launch} {d bc bs : Nat} {a0 : Int} {μ : zM} {Q : Option zV → zM → Prop}
    (h : zE X false l d bc bs y_M_init 51 [some (13, 0, a0), none] [] (zup μ a0 12 ((-1))) Q) :
    zE X false l d bc bs y_M_init 46 [some (13, 0, a0), none] [] μ Q :=
  zE_aload_n (zTb t_M_init 22 rfl) rfl (zE_iconst (zTb t_M_init 23 rfl) (by decide) (by decide) (zG_puti rfl (zTb t_M_init 24 rfl) lf_11_26 rfl rfl (fun q => by cases q) (Or.inl rfl) (h)))
set_option maxRecDepth 20000 in
theorem s_M_init_51 {X : zX} {l : Launch} {d bc bs : Nat} {a0 : Int} {μ : zM} {Q : Option zV → zM → Prop}
    (h : ((1 ≤ bc ∧ 96 ≤ bs) ∧ zE X false l d (bc - 1) (bs - 96) y_M_init 59 [some (13, 0, a0), none] [] (zup (zal μ 12 96) a0 15 (μ (-1) 0)) Q)) :
    zE X false l d bc bs y_M_init 51 [some (13, 0, a0), none] [] μ Q :=
  zE_aload_n (zTb t_M_init 25 rfl) rfl (zE_bipush (zTb t_M_init 26 rfl) rfl (by decide) (by decide) (zD_newa (t := 12) (L := 96) h.1 (zTb t_M_init 27 rfl) (Or.inl ⟨rfl, rfl⟩) rfl (by decide) (zs1 72 rfl) (zG_putr (t' := 12) (L' := 96) rfl (zTb t_M_init 28 rfl) lf_11_30 rfl (Or.inr ⟨_, rfl⟩) (by decide) (fun q => by cases q) (Or.inr ⟨rfl, rfl, rfl, zs5 173 rfl⟩) (h.2))))
set_option maxRecDepth 20000 in
theorem s_M_init_59 {X : zX} {l : Launch} {d bc bs : Nat} {a0 : Int} {μ : zM} {Q : Option zV → zM → Prop}
    (h : ((1 ≤ bc ∧ 400 ≤ bs) ∧ zE X false l d (bc - 1) (bs - 400) y_M_init 68 [some (13, 0, a0), none] [] (zup (zal μ 12 400) a0 17 (μ (-1) 0)) Q)) :
    zE X false l d bc bs y_M_init 59 [some (13, 0, a0), none] [] μ Q :=
  zE_aload_n (zTb t_M_init 29 rfl) rfl (zE_sipush (zTb t_M_init 30 rfl) rfl (by decide) (by decide) (zD_newa (t := 12) (L := 400) h.1 (zTb t_M_init 31 rfl) (Or.inl ⟨rfl, rfl⟩) rfl (by decide) (zs1 72 rfl) (zG_putr (t' := 12) (L' := 400) rfl (zTb t_M_init 32 rfl) lf_11_33 rfl (Or.inr ⟨_, rfl⟩) (by decide) (fun q => by cases q) (Or.inr ⟨rfl, rfl, rfl, zs5 175 rfl⟩) (h.2))))
set_option maxRecDepth 20000 in
theorem s_M_init_68 {X : zX} {l : Launch} {d bc bs : Nat} {a0 : Int} {μ : zM} {Q : Option zV → zM → Prop}
    (h : ((1 ≤ bc ∧ 400 ≤ bs) ∧ zE X false l d (bc - 1) (bs - 400) y_M_init 77 [some (13, 0, a0), none] [] (zup (zal μ 12 400) a0 18 (μ (-1) 0)) Q)) :
    zE X false l d bc bs y_M_init 68 [some (13, 0, a0), none] [] μ Q :=
  zE_aload_n (zTb t_M_init 33 rfl) rfl (zE_sipush (zTb t_M_init 34 rfl) rfl (by decide) (by decide) (zD_newa (t := 12) (L := 400) h.1 (zTb t_M_init 35 rfl) (Or.inl ⟨rfl, rfl⟩) rfl (by decide) (zs1 72 rfl) (zG_putr (t' := 12) (L' := 400) rfl (zTb t_M_init 36 rfl) lf_11_36 rfl (Or.inr ⟨_, rfl⟩) (by decide) (fun q => by cases q) (Or.inr ⟨rfl, rfl, rfl, zs5 176 rfl⟩) (h.2))))
set_option maxRecDepth 20000 in
theorem s_M_init_77 {X : zX} {l : Launch} {d bc bs : Nat} {a0 : Int} {μ : zM} {Q : Option zV → zM → Prop}
    (h : ((1 ≤ bc ∧ 400 ≤ bs) ∧ zE X false l d (bc - 1) (bs - 400) y_M_init 86 [some (13, 0, a0), none] [] (zup (zal μ 12 400) a0 20 (μ (-1) 0)) Q)) :
    zE X false l d bc bs y_M_init 77 [some (13, 0, a0), none] [] μ Q :=
  zE_aload_n (zTb t_M_init 37 rfl) rfl (zE_sipush (zTb t_M_init 38 rfl) rfl (by decide) (by decide) (zD_newa (t := 12) (L := 400) h.1 (zTb t_M_init 39 rfl) (Or.inl ⟨rfl, rfl⟩) rfl (by decide) (zs1 72 rfl) (zG_putr (t' := 12) (L' := 400) rfl (zTb t_M_init 40 rfl) lf_11_39 rfl (Or.inr ⟨_, rfl⟩) (by decide) (fun q => by cases q) (Or.inr ⟨rfl, rfl, rfl, zs5 178 rfl⟩) (h.2))))
set_option maxRecDepth 20000 in
theorem s_M_init_86 {X : zX} {l : Launch} {d bc bs : Nat} {a0 : Int} {μ : zM} {Q : Option zV → zM → Prop}
    (h : ((1 ≤ bc ∧ 400 ≤ bs) ∧ zE X false l d (bc - 1) (bs - 400) y_M_init 95 [some (13, 0, a0), none] [] (zup (zal μ 12 400) a0 21 (μ (-1) 0)) Q)) :
    zE X false l d bc bs y_M_init 86 [some (13, 0, a0), none] [] μ Q :=
  zE_aload_n (zTb t_M_init 41 rfl) rfl (zE_sipush (zTb t_M_init 42 rfl) rfl (by decide) (by decide) (zD_newa (t := 12) (L := 400) h.1 (zTb t_M_init 43 rfl) (Or.inl ⟨rfl, rfl⟩) rfl (by decide) (zs1 72 rfl) (zG_putr (t' := 12) (L' := 400) rfl (zTb t_M_init 44 rfl) lf_11_42 rfl (Or.inr ⟨_, rfl⟩) (by decide) (fun q => by cases q) (Or.inr ⟨rfl, rfl, rfl, zs5 179 rfl⟩) (h.2))))
set_option maxRecDepth 20000 in
theorem s_M_init_95 {X : zX} {l : Launch} {d bc bs : Nat} {a0 : Int} {μ : zM} {Q : Option zV → zM → Prop}
    (h : ((1 ≤ bc ∧ 13 ≤ bs) ∧ zE X false l d (bc - 1) (bs - 13) y_M_init 103 [some (13, 0, a0), none] [] (zup (zal μ 13 13) a0 25 (μ (-1) 0)) Q)) :
    zE X false l d bc bs y_M_init 95 [some (13, 0, a0), none] [] μ Q :=
  zE_aload_n (zTb t_M_init 45 rfl) rfl (zE_bipush (zTb t_M_init 46 rfl) rfl (by decide) (by decide) (zD_newa (t := 13) (L := 13) h.1 (zTb t_M_init 47 rfl) (Or.inr (Or.inl ⟨rfl, rfl⟩)) rfl (by decide) (zs2 79 rfl) (zG_putr (t' := 13) (L' := 13) rfl (zTb t_M_init 48 rfl) lf_11_45 rfl (Or.inr ⟨_, rfl⟩) (by decide) (fun q => by cases q) (Or.inr ⟨rfl, rfl, rfl, zs5 183 rfl⟩) (h.2))))
set_option maxRecDepth 20000 in
theorem s_M_init_103 {X : zX} {l : Launch} {d bc bs : Nat} {a0 : Int} {μ : zM} {Q : Option zV → zM → Prop}
    (h : ((1 ≤ bc ∧ 400 ≤ bs) ∧ zE X false l d (bc - 1) (bs - 400) y_M_init 112 [some (13, 0, a0), none] [] (zup (zal μ 13 400) a0 26 (μ (-1) 0)) Q)) :
    zE X false l d bc bs y_M_init 103 [some (13, 0, a0), none] [] μ Q :=
  zE_aload_n (zTb t_M_init 49 rfl) rfl (zE_sipush (zTb t_M_init 50 rfl) rfl (by decide) (by decide) (zD_newa (t := 13) (L := 400) h.1 (zTb t_M_init 51 rfl) (Or.inr (Or.inl ⟨rfl, rfl⟩)) rfl (by decide) (zs2 79 rfl) (zG_putr (t' := 13) (L' := 400) rfl (zTb t_M_init 52 rfl) lf_11_49 rfl (Or.inr ⟨_, rfl⟩) (by decide) (fun q => by cases q) (Or.inr ⟨rfl, rfl, rfl, zs5 184 rfl⟩) (h.2))))
set_option maxRecDepth 20000 in
theorem s_M_init_112 {X : zX} {l : Launch} {d bc bs : Nat} {a0 : Int} {μ : zM} {Q : Option zV → zM → Prop}
    (h : zE X false l d bc bs y_M_init 117 [some (13, 0, a0), none] [] (zup μ a0 33 ((-1))) Q) :
    zE X false l d bc bs y_M_init 112 [some (13, 0, a0), none] [] μ Q :=
  zE_aload_n (zTb t_M_init 53 rfl) rfl (zE_iconst (zTb t_M_init 54 rfl) (by decide) (by decide) (zG_puti rfl (zTb t_M_init 55 rfl) lf_11_52 rfl rfl (fun q => by cases q) (Or.inl rfl) (h)))
set_option maxRecDepth 20000 in
theorem s_M_init_117 {X : zX} {l : Launch} {d bc bs : Nat} {a0 : Int} {μ : zM} {Q : Option zV → zM → Prop}
    (h : ((1 ≤ bc ∧ 16 ≤ bs) ∧ zE X false l d (bc - 1) (bs - 16) y_M_init 125 [some (13, 0, a0), none] [] (zup (zal μ 13 16) a0 35 (μ (-1) 0)) Q)) :
    zE X false l d bc bs y_M_init 117 [some (13, 0, a0), none] [] μ Q :=
  zE_aload_n (zTb t_M_init 56 rfl) rfl (zE_bipush (zTb t_M_init 57 rfl) rfl (by decide) (by decide) (zD_newa (t := 13) (L := 16) h.1 (zTb t_M_init 58 rfl) (Or.inr (Or.inl ⟨rfl, rfl⟩)) rfl (by decide) (zs2 79 rfl) (zG_putr (t' := 13) (L' := 16) rfl (zTb t_M_init 59 rfl) lf_11_55 rfl (Or.inr ⟨_, rfl⟩) (by decide) (fun q => by cases q) (Or.inr ⟨rfl, rfl, rfl, zs5 193 rfl⟩) (h.2))))
set_option maxRecDepth 20000 in
theorem s_M_init_125 {X : zX} {l : Launch} {d bc bs : Nat} {a0 : Int} {μ : zM} {Q : Option zV → zM → Prop}
    (h : ((1 ≤ bc ∧ 16 ≤ bs) ∧ zE X false l d (bc - 1) (bs - 16) y_M_init 133 [some (13, 0, a0), none] [] (zup (zal μ 13 16) a0 36 (μ (-1) 0)) Q)) :
    zE X false l d bc bs y_M_init 125 [some (13, 0, a0), none] [] μ Q :=
  zE_aload_n (zTb t_M_init 60 rfl) rfl (zE_bipush (zTb t_M_init 61 rfl) rfl (by decide) (by decide) (zD_newa (t := 13) (L := 16) h.1 (zTb t_M_init 62 rfl) (Or.inr (Or.inl ⟨rfl, rfl⟩)) rfl (by decide) (zs2 79 rfl) (zG_putr (t' := 13) (L' := 16) rfl (zTb t_M_init 63 rfl) lf_11_58 rfl (Or.inr ⟨_, rfl⟩) (by decide) (fun q => by cases q) (Or.inr ⟨rfl, rfl, rfl, zs5 194 rfl⟩) (h.2))))
set_option maxRecDepth 20000 in
theorem s_M_init_133 {X : zX} {l : Launch} {d bc bs : Nat} {a0 : Int} {μ : zM} {Q : Option zV → zM → Prop}
    (h : ((1 ≤ bc ∧ 16 ≤ bs) ∧ zE X false l d (bc - 1) (bs - 16) y_M_init 141 [some (13, 0, a0), none] [] (zup (zal μ 13 16) a0 37 (μ (-1) 0)) Q)) :
    zE X false l d bc bs y_M_init 133 [some (13, 0, a0), none] [] μ Q :=
  zE_aload_n (zTb t_M_init 64 rfl) rfl (zE_bipush (zTb t_M_init 65 rfl) rfl (by decide) (by decide) (zD_newa (t := 13) (L := 16) h.1 (zTb t_M_init 66 rfl) (Or.inr (Or.inl ⟨rfl, rfl⟩)) rfl (by decide) (zs2 79 rfl) (zG_putr (t' := 13) (L' := 16) rfl (zTb t_M_init 67 rfl) lf_11_61 rfl (Or.inr ⟨_, rfl⟩) (by decide) (fun q => by cases q) (Or.inr ⟨rfl, rfl, rfl, zs5 195 rfl⟩) (h.2))))
set_option maxRecDepth 20000 in
theorem s_M_init_141 {X : zX} {l : Launch} {d bc bs : Nat} {a0 : Int} {μ : zM} {Q : Option zV → zM → Prop}
    (h : ((1 ≤ bc ∧ 3888 ≤ bs) ∧ zE X false l d (bc - 1) (bs - 3888) y_M_init 150 [some (13, 0, a0), none] [] (zup (zal μ 13 3888) a0 38 (μ (-1) 0)) Q)) :
    zE X false l d bc bs y_M_init 141 [some (13, 0, a0), none] [] μ Q :=
  zE_aload_n (zTb t_M_init 68 rfl) rfl (zE_sipush (zTb t_M_init 69 rfl) rfl (by decide) (by decide) (zD_newa (t := 13) (L := 3888) h.1 (zTb t_M_init 70 rfl) (Or.inr (Or.inl ⟨rfl, rfl⟩)) rfl (by decide) (zs2 79 rfl) (zG_putr (t' := 13) (L' := 3888) rfl (zTb t_M_init 71 rfl) lf_11_64 rfl (Or.inr ⟨_, rfl⟩) (by decide) (fun q => by cases q) (Or.inr ⟨rfl, rfl, rfl, zs5 196 rfl⟩) (h.2))))
set_option maxRecDepth 20000 in
theorem s_M_init_150 {X : zX} {l : Launch} {d bc bs : Nat} {a0 : Int} {μ : zM} {Q : Option zV → zM → Prop}
    (h : ((1 ≤ bc ∧ 3888 ≤ bs) ∧ zE X false l d (bc - 1) (bs - 3888) y_M_init 159 [some (13, 0, a0), none] [] (zup (zal μ 13 3888) a0 39 (μ (-1) 0)) Q)) :
    zE X false l d bc bs y_M_init 150 [some (13, 0, a0), none] [] μ Q :=
  zE_aload_n (zTb t_M_init 72 rfl) rfl (zE_sipush (zTb t_M_init 73 rfl) rfl (by decide) (by decide) (zD_newa (t := 13) (L := 3888) h.1 (zTb t_M_init 74 rfl) (Or.inr (Or.inl ⟨rfl, rfl⟩)) rfl (by decide) (zs2 79 rfl) (zG_putr (t' := 13) (L' := 3888) rfl (zTb t_M_init 75 rfl) lf_11_67 rfl (Or.inr ⟨_, rfl⟩) (by decide) (fun q => by cases q) (Or.inr ⟨rfl, rfl, rfl, zs5 197 rfl⟩) (h.2))))
set_option maxRecDepth 20000 in
theorem s_M_init_159 {X : zX} {l : Launch} {d bc bs : Nat} {a0 : Int} {μ : zM} {Q : Option zV → zM → Prop}
    (h : ((1 ≤ bc ∧ 5 ≤ bs) ∧ zE X false l d (bc - 1) (bs - 5) y_M_init 166 [some (13, 0, a0), none] [] (zup (zal μ 12 5) a0 40 (μ (-1) 0)) Q)) :
    zE X false l d bc bs y_M_init 159 [some (13, 0, a0), none] [] μ Q :=
  zE_aload_n (zTb t_M_init 76 rfl) rfl (zE_iconst (zTb t_M_init 77 rfl) (by decide) (by decide) (zD_newa (t := 12) (L := 5) h.1 (zTb t_M_init 78 rfl) (Or.inl ⟨rfl, rfl⟩) rfl (by decide) (zs1 72 rfl) (zG_putr (t' := 12) (L' := 5) rfl (zTb t_M_init 79 rfl) lf_11_70 rfl (Or.inr ⟨_, rfl⟩) (by decide) (fun q => by cases q) (Or.inr ⟨rfl, rfl, rfl, zs5 198 rfl⟩) (h.2))))
set_option maxRecDepth 20000 in
theorem s_M_init_166 {X : zX} {l : Launch} {d bc bs : Nat} {a0 : Int} {μ : zM} {Q : Option zV → zM → Prop}
    (h : ((1 ≤ bc ∧ 16 ≤ bs) ∧ zE X false l d (bc - 1) (bs - 16) y_M_init 174 [some (13, 0, a0), none] [] (zup (zal μ 13 16) a0 41 (μ (-1) 0)) Q)) :
    zE X false l d bc bs y_M_init 166 [some (13, 0, a0), none] [] μ Q :=
  zE_aload_n (zTb t_M_init 80 rfl) rfl (zE_bipush (zTb t_M_init 81 rfl) rfl (by decide) (by decide) (zD_newa (t := 13) (L := 16) h.1 (zTb t_M_init 82 rfl) (Or.inr (Or.inl ⟨rfl, rfl⟩)) rfl (by decide) (zs2 79 rfl) (zG_putr (t' := 13) (L' := 16) rfl (zTb t_M_init 83 rfl) lf_11_73 rfl (Or.inr ⟨_, rfl⟩) (by decide) (fun q => by cases q) (Or.inr ⟨rfl, rfl, rfl, zs5 199 rfl⟩) (h.2))))
set_option maxRecDepth 20000 in
theorem s_M_init_174 {X : zX} {l : Launch} {d bc bs : Nat} {a0 : Int} {μ : zM} {Q : Option zV → zM → Prop}
    (h : ((1 ≤ bc ∧ 480 ≤ bs) ∧ zE X false l d (bc - 1) (bs - 480) y_M_init 183 [some (13, 0, a0), none] [] (zup (zal μ 12 480) a0 42 (μ (-1) 0)) Q)) :
    zE X false l d bc bs y_M_init 174 [some (13, 0, a0), none] [] μ Q :=
  zE_aload_n (zTb t_M_init 84 rfl) rfl (zE_sipush (zTb t_M_init 85 rfl) rfl (by decide) (by decide) (zD_newa (t := 12) (L := 480) h.1 (zTb t_M_init 86 rfl) (Or.inl ⟨rfl, rfl⟩) rfl (by decide) (zs1 72 rfl) (zG_putr (t' := 12) (L' := 480) rfl (zTb t_M_init 87 rfl) lf_11_76 rfl (Or.inr ⟨_, rfl⟩) (by decide) (fun q => by cases q) (Or.inr ⟨rfl, rfl, rfl, zs5 200 rfl⟩) (h.2))))
set_option maxRecDepth 20000 in
theorem s_M_init_183 {X : zX} {l : Launch} {d bc bs : Nat} {a0 : Int} {μ : zM} {Q : Option zV → zM → Prop}
    (h : ((1 ≤ bc ∧ 16 ≤ bs) ∧ zE X false l d (bc - 1) (bs - 16) y_M_init 191 [some (13, 0, a0), none] [] (zup (zal μ 13 16) a0 43 (μ (-1) 0)) Q)) :
    zE X false l d bc bs y_M_init 183 [some (13, 0, a0), none] [] μ Q :=
  zE_aload_n (zTb t_M_init 88 rfl) rfl (zE_bipush (zTb t_M_init 89 rfl) rfl (by decide) (by decide) (zD_newa (t := 13) (L := 16) h.1 (zTb t_M_init 90 rfl) (Or.inr (Or.inl ⟨rfl, rfl⟩)) rfl (by decide) (zs2 79 rfl) (zG_putr (t' := 13) (L' := 16) rfl (zTb t_M_init 91 rfl) lf_11_79 rfl (Or.inr ⟨_, rfl⟩) (by decide) (fun q => by cases q) (Or.inr ⟨rfl, rfl, rfl, zs5 201 rfl⟩) (h.2))))
set_option maxRecDepth 20000 in
theorem s_M_init_191 {X : zX} {l : Launch} {d bc bs : Nat} {a0 : Int} {μ : zM} {Q : Option zV → zM → Prop}
    (h : zE X false l d bc bs y_M_init 196 [some (13, 0, a0), none] [] (zup μ a0 45 ((-1))) Q) :
    zE X false l d bc bs y_M_init 191 [some (13, 0, a0), none] [] μ Q :=
  zE_aload_n (zTb t_M_init 92 rfl) rfl (zE_iconst (zTb t_M_init 93 rfl) (by decide) (by decide) (zG_puti rfl (zTb t_M_init 94 rfl) lf_11_82 rfl rfl (fun q => by cases q) (Or.inl rfl) (h)))
set_option maxRecDepth 20000 in
theorem s_M_init_196 {X : zX} {l : Launch} {d bc bs : Nat} {a0 : Int} {μ : zM} {Q : Option zV → zM → Prop}
    (h : ((1 ≤ bc ∧ 5 ≤ bs) ∧ zE X false l d (bc - 1) (bs - 5) y_M_init 203 [some (13, 0, a0), none] [] (zup (zal μ 12 5) a0 46 (μ (-1) 0)) Q)) :
    zE X false l d bc bs y_M_init 196 [some (13, 0, a0), none] [] μ Q :=
  zE_aload_n (zTb t_M_init 95 rfl) rfl (zE_iconst (zTb t_M_init 96 rfl) (by decide) (by decide) (zD_newa (t := 12) (L := 5) h.1 (zTb t_M_init 97 rfl) (Or.inl ⟨rfl, rfl⟩) rfl (by decide) (zs1 72 rfl) (zG_putr (t' := 12) (L' := 5) rfl (zTb t_M_init 98 rfl) lf_11_85 rfl (Or.inr ⟨_, rfl⟩) (by decide) (fun q => by cases q) (Or.inr ⟨rfl, rfl, rfl, zs5 204 rfl⟩) (h.2))))
set_option maxRecDepth 20000 in
theorem s_M_init_203 {X : zX} {l : Launch} {d bc bs : Nat} {a0 : Int} {μ : zM} {Q : Option zV → zM → Prop}
    (h : ((1 ≤ bc ∧ 5 ≤ bs) ∧ zE X false l d (bc - 1) (bs - 5) y_M_init 210 [some (13, 0, a0), none] [] (zup (zal μ 12 5) a0 47 (μ (-1) 0)) Q)) :
    zE X false l d bc bs y_M_init 203 [some (13, 0, a0), none] [] μ Q :=
  zE_aload_n (zTb t_M_init 99 rfl) rfl (zE_iconst (zTb t_M_init 100 rfl) (by decide) (by decide) (zD_newa (t := 12) (L := 5) h.1 (zTb t_M_init 101 rfl) (Or.inl ⟨rfl, rfl⟩) rfl (by decide) (zs1 72 rfl) (zG_putr (t' := 12) (L' := 5) rfl (zTb t_M_init 102 rfl) lf_11_88 rfl (Or.inr ⟨_, rfl⟩) (by decide) (fun q => by cases q) (Or.inr ⟨rfl, rfl, rfl, zs5 205 rfl⟩) (h.2))))
set_option maxRecDepth 20000 in
theorem s_M_init_210 {X : zX} {l : Launch} {d bc bs : Nat} {a0 : Int} {μ : zM} {Q : Option zV → zM → Prop}
    (h : ((1 ≤ bc ∧ 180 ≤ bs) ∧ zE X false l d (bc - 1) (bs - 180) y_M_init 219 [some (13, 0, a0), none] [] (zup (zal μ 13 180) a0 48 (μ (-1) 0)) Q)) :
    zE X false l d bc bs y_M_init 210 [some (13, 0, a0), none] [] μ Q :=
  zE_aload_n (zTb t_M_init 103 rfl) rfl (zE_sipush (zTb t_M_init 104 rfl) rfl (by decide) (by decide) (zD_newa (t := 13) (L := 180) h.1 (zTb t_M_init 105 rfl) (Or.inr (Or.inl ⟨rfl, rfl⟩)) rfl (by decide) (zs2 79 rfl) (zG_putr (t' := 13) (L' := 180) rfl (zTb t_M_init 106 rfl) lf_11_91 rfl (Or.inr ⟨_, rfl⟩) (by decide) (fun q => by cases q) (Or.inr ⟨rfl, rfl, rfl, zs5 206 rfl⟩) (h.2))))
set_option maxRecDepth 20000 in
theorem s_M_init_219 {X : zX} {l : Launch} {d bc bs : Nat} {a0 : Int} {μ : zM} {Q : Option zV → zM → Prop}
    (h : ((1 ≤ bc ∧ 180 ≤ bs) ∧ zE X false l d (bc - 1) (bs - 180) y_M_init 228 [some (13, 0, a0), none] [] (zup (zal μ 13 180) a0 49 (μ (-1) 0)) Q)) :
    zE X false l d bc bs y_M_init 219 [some (13, 0, a0), none] [] μ Q :=
  zE_aload_n (zTb t_M_init 107 rfl) rfl (zE_sipush (zTb t_M_init 108 rfl) rfl (by decide) (by decide) (zD_newa (t := 13) (L := 180) h.1 (zTb t_M_init 109 rfl) (Or.inr (Or.inl ⟨rfl, rfl⟩)) rfl (by decide) (zs2 79 rfl) (zG_putr (t' := 13) (L' := 180) rfl (zTb t_M_init 110 rfl) lf_11_94 rfl (Or.inr ⟨_, rfl⟩) (by decide) (fun q => by cases q) (Or.inr ⟨rfl, rfl, rfl, zs5 207 rfl⟩) (h.2))))
set_option maxRecDepth 20000 in
theorem s_M_init_228 {X : zX} {l : Launch} {d bc bs : Nat} {a0 : Int} {μ : zM} {Q : Option zV → zM → Prop}
    (h : ((1 ≤ bc ∧ 360 ≤ bs) ∧ zE X false l d (bc - 1) (bs - 360) y_M_init 237 [some (13, 0, a0), none] [] (zup (zal μ 13 360) a0 50 (μ (-1) 0)) Q)) :
    zE X false l d bc bs y_M_init 228 [some (13, 0, a0), none] [] μ Q :=
  zE_aload_n (zTb t_M_init 111 rfl) rfl (zE_sipush (zTb t_M_init 112 rfl) rfl (by decide) (by decide) (zD_newa (t := 13) (L := 360) h.1 (zTb t_M_init 113 rfl) (Or.inr (Or.inl ⟨rfl, rfl⟩)) rfl (by decide) (zs2 79 rfl) (zG_putr (t' := 13) (L' := 360) rfl (zTb t_M_init 114 rfl) lf_11_97 rfl (Or.inr ⟨_, rfl⟩) (by decide) (fun q => by cases q) (Or.inr ⟨rfl, rfl, rfl, zs5 208 rfl⟩) (h.2))))
set_option maxRecDepth 20000 in
theorem s_M_init_237 {X : zX} {l : Launch} {d bc bs : Nat} {a0 : Int} {μ : zM} {Q : Option zV → zM → Prop}
    (h : ((1 ≤ bc ∧ 180 ≤ bs) ∧ zE X false l d (bc - 1) (bs - 180) y_M_init 246 [some (13, 0, a0), none] [] (zup (zal μ 13 180) a0 51 (μ (-1) 0)) Q)) :
    zE X false l d bc bs y_M_init 237 [some (13, 0, a0), none] [] μ Q :=
  zE_aload_n (zTb t_M_init 115 rfl) rfl (zE_sipush (zTb t_M_init 116 rfl) rfl (by decide) (by decide) (zD_newa (t := 13) (L := 180) h.1 (zTb t_M_init 117 rfl) (Or.inr (Or.inl ⟨rfl, rfl⟩)) rfl (by decide) (zs2 79 rfl) (zG_putr (t' := 13) (L' := 180) rfl (zTb t_M_init 118 rfl) lf_11_100 rfl (Or.inr ⟨_, rfl⟩) (by decide) (fun q => by cases q) (Or.inr ⟨rfl, rfl, rfl, zs5 209 rfl⟩) (h.2))))
set_option maxRecDepth 20000 in
theorem s_M_init_246 {X : zX} {l : Launch} {d bc bs : Nat} {a0 : Int} {μ : zM} {Q : Option zV → zM → Prop}
    (h : ((0 ≤ μ a0 3) ∧ zE X false l d bc bs y_M_init 253 [some (13, 0, a0), none] [] (zup μ (μ a0 3) 1 ((-1))) Q)) :
    zE X false l d bc bs y_M_init 246 [some (13, 0, a0), none] [] μ Q :=
  zE_aload_n (zTb t_M_init 119 rfl) rfl (zG_getf rfl (zTb t_M_init 120 rfl) lf_11_13 rfl (zE_nn (t := 12) h.1 (zE_iconst (zTb t_M_init 121 rfl) (by decide) (by decide) (zE_iconst (zTb t_M_init 122 rfl) (by decide) (by decide) (zE_iast (zTb t_M_init 123 rfl) (by decide) (h.2))))))
set_option maxRecDepth 20000 in
theorem s_M_init_253 {X : zX} {l : Launch} {d bc bs : Nat} {a0 : Int} {μ : zM} {Q : Option zV → zM → Prop}
    (h : ((0 ≤ μ a0 3) ∧ zE X false l d bc bs y_M_init 261 [some (13, 0, a0), none] [] (zup μ (μ a0 3) 2 6) Q)) :
    zE X false l d bc bs y_M_init 253 [some (13, 0, a0), none] [] μ Q :=
  zE_aload_n (zTb t_M_init 124 rfl) rfl (zG_getf rfl (zTb t_M_init 125 rfl) lf_11_13 rfl (zE_nn (t := 12) h.1 (zE_iconst (zTb t_M_init 126 rfl) (by decide) (by decide) (zE_bipush (zTb t_M_init 127 rfl) rfl (by decide) (by decide) (zE_iast (zTb t_M_init 128 rfl) (by decide) (h.2))))))
set_option maxRecDepth 20000 in
theorem s_M_init_261 {X : zX} {l : Launch} {d bc bs : Nat} {a0 : Int} {μ : zM} {Q : Option zV → zM → Prop}
    (h : zE X false l d bc bs y_M_init 263 [some (13, 0, a0), some (0, 0, 0)] [] μ Q) :
    zE X false l d bc bs y_M_init 261 [some (13, 0, a0), none] [] μ Q :=
  zE_iconst (zTb t_M_init 129 rfl) (by decide) (by decide) (zE_istore_n (ls' := [some (13, 0, a0), some (0, 0, 0)]) (zTb t_M_init 130 rfl) rfl (by decide) (h))
set_option maxRecDepth 20000 in
theorem s_M_init_263 {X : zX} {l : Launch} {d bc bs : Nat} {a0 x1 : Int} {μ : zM} {Q : Option zV → zM → Prop}
    (h : ((60 ≤ x1 → zE X false l d bc bs y_M_init 286 [some (13, 0, a0), none] [] μ Q) ∧ (¬ 60 ≤ x1 → zE X false l d bc bs y_M_init 269 [some (13, 0, a0), some (0, 0, x1)] [] μ Q))) :
    zE X false l d bc bs y_M_init 263 [some (13, 0, a0), some (0, 0, x1)] [] μ Q :=
  zE_iload_n (zTb t_M_init 131 rfl) rfl (zE_bipush (zTb t_M_init 132 rfl) rfl (by decide) (by decide) (zE_icmpge (zTb t_M_init 133 rfl) rfl (fun c1 => zE_mask [true, false] rfl ((h.1 c1))) (fun c1 => (h.2 c1))))
set_option maxRecDepth 20000 in
theorem s_M_init_269 {X : zX} {l : Launch} {d bc bs : Nat} {a0 x1 : Int} {μ : zM} {Q : Option zV → zM → Prop}
    (h : ((0 ≤ μ a0 3) ∧ (((0 : Int) ≤ zw (100 + x1) ∧ (zw (100 + x1) : Int) < 4080) ∧ zE X false l d bc bs y_M_init 263 [some (13, 0, a0), some (0, 0, zw (x1 + 1))] [] (zup μ (μ a0 3) (zw (100 + x1)) 31) Q))) :
    zE X false l d bc bs y_M_init 269 [some (13, 0, a0), some (0, 0, x1)] [] μ Q :=
  zE_aload_n (zTb t_M_init 134 rfl) rfl (zG_getf rfl (zTb t_M_init 135 rfl) lf_11_13 rfl (zE_nn (t := 12) h.1 (zE_bipush (zTb t_M_init 136 rfl) rfl (by decide) (by decide) (zE_iload_n (zTb t_M_init 137 rfl) rfl (zE_iadd (zTb t_M_init 138 rfl) (zE_bipush (zTb t_M_init 139 rfl) rfl (by decide) (by decide) (zE_iast (zTb t_M_init 140 rfl) h.2.1 (zE_iinc (ls' := [some (13, 0, a0), some (0, 0, zw (x1 + 1))]) (zTb t_M_init 141 rfl) rfl rfl (by decide) (zE_goto (zTb t_M_init 142 rfl) rfl (h.2.2))))))))))
set_option maxRecDepth 20000 in
theorem s_M_init_286 {X : zX} {l : Launch} {d bc bs : Nat} {a0 : Int} {μ : zM} {Q : Option zV → zM → Prop}
    (h : zE X false l d bc bs y_M_init 288 [some (13, 0, a0), some (0, 0, 0)] [] μ Q) :
    zE X false l d bc bs y_M_init 286 [some (13, 0, a0), none] [] μ Q :=
  zE_iconst (zTb t_M_init 143 rfl) (by decide) (by decide) (zE_istore_n (ls' := [some (13, 0, a0), some (0, 0, 0)]) (zTb t_M_init 144 rfl) rfl (by decide) (h))
set_option maxRecDepth 20000 in
theorem s_M_init_288 {X : zX} {l : Launch} {d bc bs : Nat} {a0 x1 : Int} {μ : zM} {Q : Option zV → zM → Prop}
    (h : ((30 ≤ x1 → zE X false l d bc bs y_M_init 311 [some (13, 0, a0), none] [] μ Q) ∧ (¬ 30 ≤ x1 → zE X false l d bc bs y_M_init 294 [some (13, 0, a0), some (0, 0, x1)] [] μ Q))) :
    zE X false l d bc bs y_M_init 288 [some (13, 0, a0), some (0, 0, x1)] [] μ Q :=
  zE_iload_n (zTb t_M_init 145 rfl) rfl (zE_bipush (zTb t_M_init 146 rfl) rfl (by decide) (by decide) (zE_icmpge (zTb t_M_init 147 rfl) rfl (fun c1 => zE_mask [true, false] rfl ((h.1 c1))) (fun c1 => (h.2 c1))))
set_option maxRecDepth 20000 in
theorem s_M_init_294 {X : zX} {l : Launch} {d bc bs : Nat} {a0 x1 : Int} {μ : zM} {Q : Option zV → zM → Prop}
    (h : ((0 ≤ μ a0 3) ∧ (((0 : Int) ≤ zw (160 + x1) ∧ (zw (160 + x1) : Int) < 4080) ∧ zE X false l d bc bs y_M_init 288 [some (13, 0, a0), some (0, 0, zw (x1 + 1))] [] (zup μ (μ a0 3) (zw (160 + x1)) ((-1))) Q))) :
    zE X false l d bc bs y_M_init 294 [some (13, 0, a0), some (0, 0, x1)] [] μ Q :=
  zE_aload_n (zTb t_M_init 148 rfl) rfl (zG_getf rfl (zTb t_M_init 149 rfl) lf_11_13 rfl (zE_nn (t := 12) h.1 (zE_sipush (zTb t_M_init 150 rfl) rfl (by decide) (by decide) (zE_iload_n (zTb t_M_init 151 rfl) rfl (zE_iadd (zTb t_M_init 152 rfl) (zE_iconst (zTb t_M_init 153 rfl) (by decide) (by decide) (zE_iast (zTb t_M_init 154 rfl) h.2.1 (zE_iinc (ls' := [some (13, 0, a0), some (0, 0, zw (x1 + 1))]) (zTb t_M_init 155 rfl) rfl rfl (by decide) (zE_goto (zTb t_M_init 156 rfl) rfl (h.2.2))))))))))
set_option maxRecDepth 20000 in
theorem s_M_init_311 {X : zX} {l : Launch} {d bc bs : Nat} {a0 : Int} {μ : zM} {Q : Option zV → zM → Prop}
    (h : zE X false l d bc bs y_M_init 313 [some (13, 0, a0), some (0, 0, 0)] [] μ Q) :
    zE X false l d bc bs y_M_init 311 [some (13, 0, a0), none] [] μ Q :=
  zE_iconst (zTb t_M_init 157 rfl) (by decide) (by decide) (zE_istore_n (ls' := [some (13, 0, a0), some (0, 0, 0)]) (zTb t_M_init 158 rfl) rfl (by decide) (h))
set_option maxRecDepth 20000 in
theorem s_M_init_313 {X : zX} {l : Launch} {d bc bs : Nat} {a0 x1 : Int} {μ : zM} {Q : Option zV → zM → Prop}
    (h : ((12 ≤ x1 → zE X false l d bc bs y_M_init 359 [some (13, 0, a0), none] [] μ Q) ∧ (¬ 12 ≤ x1 → zE X false l d bc bs y_M_init 319 [some (13, 0, a0), some (0, 0, x1)] [] μ Q))) :
    zE X false l d bc bs y_M_init 313 [some (13, 0, a0), some (0, 0, x1)] [] μ Q :=
  zE_iload_n (zTb t_M_init 159 rfl) rfl (zE_bipush (zTb t_M_init 160 rfl) rfl (by decide) (by decide) (zE_icmpge (zTb t_M_init 161 rfl) rfl (fun c1 => zE_mask [true, false] rfl ((h.1 c1))) (fun c1 => (h.2 c1))))
set_option maxRecDepth 20000 in
theorem s_M_init_319 {X : zX} {l : Launch} {d bc bs : Nat} {a0 x1 : Int} {μ : zM} {Q : Option zV → zM → Prop}
    (h : ((0 ≤ μ a0 3) ∧ (((0 : Int) ≤ zw (200 + x1) ∧ (zw (200 + x1) : Int) < 4080) ∧ zE X false l d bc bs y_M_init 313 [some (13, 0, a0), some (0, 0, zw (x1 + 1))] [] (zup μ (μ a0 3) (zw (200 + x1)) (if 99 ≤ zw ((zw (10 * x1)) + 10) then (99 : Int) else zw ((zw (10 * x1)) + 10))) Q))) :
    zE X false l d bc bs y_M_init 319 [some (13, 0, a0), some (0, 0, x1)] [] μ Q :=
  zE_aload_n (zTb t_M_init 162 rfl) rfl (zG_getf rfl (zTb t_M_init 163 rfl) lf_11_13 rfl (zE_nn (t := 12) h.1 (zE_sipush (zTb t_M_init 164 rfl) rfl (by decide) (by decide) (zE_iload_n (zTb t_M_init 165 rfl) rfl (zE_iadd (zTb t_M_init 166 rfl) (zE_bipush (zTb t_M_init 167 rfl) rfl (by decide) (by decide) (zE_iload_n (zTb t_M_init 168 rfl) rfl (zE_imul (zTb t_M_init 169 rfl) (zE_bipush (zTb t_M_init 170 rfl) rfl (by decide) (by decide) (zE_iadd (zTb t_M_init 171 rfl) (zE_bipush (zTb t_M_init 172 rfl) rfl (by decide) (by decide) ((fun k1 => zE_icmpge (zTb t_M_init 173 rfl) rfl (fun c2 => zE_bipush (zTb t_M_init 180 rfl) rfl (by decide) (by decide) (zif_t (P := fun w => zE X false l d bc bs y_M_init 352 [some (13, 0, a0), some (0, 0, x1)] [(0, 0, w), (0, 0, zw (200 + x1)), (14, 4080, μ a0 3)] μ Q) c2 k1)) (fun c2 => zE_bipush (zTb t_M_init 174 rfl) rfl (by decide) (by decide) (zE_iload_n (zTb t_M_init 175 rfl) rfl (zE_imul (zTb t_M_init 176 rfl) (zE_bipush (zTb t_M_init 177 rfl) rfl (by decide) (by decide) (zE_iadd (zTb t_M_init 178 rfl) (zE_goto (zTb t_M_init 179 rfl) rfl (zif_f (P := fun w => zE X false l d bc bs y_M_init 352 [some (13, 0, a0), some (0, 0, x1)] [(0, 0, w), (0, 0, zw (200 + x1)), (14, 4080, μ a0 3)] μ Q) c2 k1)))))))) (zE_iast (zTb t_M_init 181 rfl) h.2.1 (zE_iinc (ls' := [some (13, 0, a0), some (0, 0, zw (x1 + 1))]) (zTb t_M_init 182 rfl) rfl rfl (by decide) (zE_goto (zTb t_M_init 183 rfl) rfl (h.2.2))))))))))))))))
set_option maxRecDepth 20000 in
theorem s_M_init_359 {X : zX} {l : Launch} {d bc bs : Nat} {a0 : Int} {μ : zM} {Q : Option zV → zM → Prop}
    (h : zE X false l d bc bs y_M_init 361 [some (13, 0, a0), some (0, 0, 0)] [] μ Q) :
    zE X false l d bc bs y_M_init 359 [some (13, 0, a0), none] [] μ Q :=
  zE_iconst (zTb t_M_init 184 rfl) (by decide) (by decide) (zE_istore_n (ls' := [some (13, 0, a0), some (0, 0, 0)]) (zTb t_M_init 185 rfl) rfl (by decide) (h))
set_option maxRecDepth 20000 in
theorem s_M_init_361 {X : zX} {l : Launch} {d bc bs : Nat} {a0 x1 : Int} {μ : zM} {Q : Option zV → zM → Prop}
    (h : ((4 ≤ x1 → Q none μ) ∧ (¬ 4 ≤ x1 → zE X false l d bc bs y_M_init 366 [some (13, 0, a0), some (0, 0, x1)] [] μ Q))) :
    zE X false l d bc bs y_M_init 361 [some (13, 0, a0), some (0, 0, x1)] [] μ Q :=
  zE_iload_n (zTb t_M_init 186 rfl) rfl (zE_iconst (zTb t_M_init 187 rfl) (by decide) (by decide) (zE_icmpge (zTb t_M_init 188 rfl) rfl (fun c1 => zE_ret (zTb t_M_init 198 rfl) rfl (h.1 c1)) (fun c1 => (h.2 c1))))
set_option maxRecDepth 20000 in
theorem s_M_init_366 {X : zX} {l : Launch} {d bc bs : Nat} {a0 x1 : Int} {μ : zM} {Q : Option zV → zM → Prop}
    (h : ((0 ≤ μ a0 3) ∧ (((0 : Int) ≤ zw (212 + x1) ∧ (zw (212 + x1) : Int) < 4080) ∧ zE X false l d bc bs y_M_init 361 [some (13, 0, a0), some (0, 0, zw (x1 + 1))] [] (zup μ (μ a0 3) (zw (212 + x1)) 1) Q))) :
    zE X false l d bc bs y_M_init 366 [some (13, 0, a0), some (0, 0, x1)] [] μ Q :=
  zE_aload_n (zTb t_M_init 189 rfl) rfl (zG_getf rfl (zTb t_M_init 190 rfl) lf_11_13 rfl (zE_nn (t := 12) h.1 (zE_sipush (zTb t_M_init 191 rfl) rfl (by decide) (by decide) (zE_iload_n (zTb t_M_init 192 rfl) rfl (zE_iadd (zTb t_M_init 193 rfl) (zE_iconst (zTb t_M_init 194 rfl) (by decide) (by decide) (zE_iast (zTb t_M_init 195 rfl) h.2.1 (zE_iinc (ls' := [some (13, 0, a0), some (0, 0, zw (x1 + 1))]) (zTb t_M_init 196 rfl) rfl rfl (by decide) (zE_goto (zTb t_M_init 197 rfl) rfl (h.2.2))))))))))

/-! Math_max_III -/
set_option maxRecDepth 20000 in
theorem s_Math_max_III_0 {X : zX} {g : Bool} {l : Launch} {d d1 : Nat} {x0 x1 : Int} {μ : zM} {Q : Option zV → zM → Prop}
    (h : Q (some (0, 0, (if x0 < x1 then (x1 : Int) else x0))) μ) :
    zE X g l d 0 0 y_Math_max_III 0 [some (0, 0, x0), some (0, 0, x1)] [] μ Q :=
  zE_iload_n (zTb t_Math_max_III 0 rfl) rfl (zE_iload_n (zTb t_Math_max_III 1 rfl) rfl ((fun k1 => zE_icmplt (zTb t_Math_max_III 2 rfl) rfl (fun c2 => zE_iload_n (zTb t_Math_max_III 5 rfl) rfl (zif_t (P := fun w => zE X g l d 0 0 y_Math_max_III 10 [some (0, 0, x0), some (0, 0, x1)] [(0, 0, w)] μ Q) c2 k1)) (fun c2 => zE_iload_n (zTb t_Math_max_III 3 rfl) rfl (zE_goto (zTb t_Math_max_III 4 rfl) rfl (zif_f (P := fun w => zE X g l d 0 0 y_Math_max_III 10 [some (0, 0, x0), some (0, 0, x1)] [(0, 0, w)] μ Q) c2 k1)))) (zE_iret (zTb t_Math_max_III 6 rfl) rfl h)))
theorem c_Math_max_III {X : zX} {g : Bool} {l : Launch} {d d1 : Nat} {x0 x1 : Int} {μ : zM} {Q : Int → zM → Prop}
    (h : Q (if x0 < x1 then (x1 : Int) else x0) μ) :
    zCi X g l d 0 0 y_Math_max_III [(0, 0, x0), (0, 0, x1)] μ Q :=
  zC'_of rfl (Nat.le_of_ble_eq_true rfl) rfl (s_Math_max_III_0 (Q := (zri Q)) h)
/-! Arrays_fill -/
set_option maxRecDepth 20000 in
theorem s_Arrays_fill_0 {X : zX} {g : Bool} {l : Launch} {d d1 : Nat} {L0 : Nat} {a0 x1 : Int} {μ : zM} {Q : Option zV → zM → Prop}
    (h : zE X g l d 0 0 y_Arrays_fill 5 [some (14, L0, a0), some (0, 0, x1), some (0, 0, 0), some (0, 0, (L0 : Int))] [] μ Q) :
    zE X g l d 0 0 y_Arrays_fill 0 [some (14, L0, a0), some (0, 0, x1), none, none] [] μ Q :=
  zE_iconst (zTb t_Arrays_fill 0 rfl) (by decide) (by decide) (zE_istore_n (ls' := [some (14, L0, a0), some (0, 0, x1), some (0, 0, 0), none]) (zTb t_Arrays_fill 1 rfl) rfl (by decide) (zE_aload_n (zTb t_Arrays_fill 2 rfl) rfl (zE_alen (L := L0) (zTb t_Arrays_fill 3 rfl) (by decide) (by decide) (zE_istore_n (ls' := [some (14, L0, a0), some (0, 0, x1), some (0, 0, 0), some (0, 0, (L0 : Int))]) (zTb t_Arrays_fill 4 rfl) rfl (by decide) (h)))))
theorem c_Arrays_fill {X : zX} {g : Bool} {l : Launch} {d d1 : Nat} {L0 : Nat} {a0 x1 : Int} {μ : zM} {Q : zM → Prop}
    (h : zE X g l d 0 0 y_Arrays_fill 5 [some (14, L0, a0), some (0, 0, x1), some (0, 0, 0), some (0, 0, (L0 : Int))] [] μ (zrn Q)) :
    zCv X g l d 0 0 y_Arrays_fill [(14, L0, a0), (0, 0, x1)] μ Q :=
  zC'_of rfl (Nat.le_of_ble_eq_true rfl) rfl (s_Arrays_fill_0 (Q := (zrn Q)) h)
set_option maxRecDepth 20000 in
theorem s_Arrays_fill_5 {X : zX} {g : Bool} {l : Launch} {d d1 : Nat} {L0 : Nat} {a0 x1 x2 x3 : Int} {μ : zM} {Q : Option zV → zM → Prop}
    (h : ((x3 ≤ x2 → Q none μ) ∧ (¬ x3 ≤ x2 → (((0 : Int) ≤ x2 ∧ (x2 : Int) < (L0 : Int)) ∧ zE X g l d 0 0 y_Arrays_fill 5 [some (14, L0, a0), some (0, 0, x1), some (0, 0, zw (x2 + 1)), some (0, 0, x3)] [] (zup μ a0 x2 x1) Q)))) :
    zE X g l d 0 0 y_Arrays_fill 5 [some (14, L0, a0), some (0, 0, x1), some (0, 0, x2), some (0, 0, x3)] [] μ Q :=
  zE_iload_n (zTb t_Arrays_fill 5 rfl) rfl (zE_iload_n (zTb t_Arrays_fill 6 rfl) rfl (zE_icmpge (zTb t_Arrays_fill 7 rfl) rfl (fun c1 => zE_ret (zTb t_Arrays_fill 14 rfl) rfl (h.1 c1)) (fun c1 => zE_aload_n (zTb t_Arrays_fill 8 rfl) rfl (zE_iload_n (zTb t_Arrays_fill 9 rfl) rfl (zE_iload_n (zTb t_Arrays_fill 10 rfl) rfl (zE_iast (zTb t_Arrays_fill 11 rfl) (h.2 c1).1 (zE_iinc (ls' := [some (14, L0, a0), some (0, 0, x1), some (0, 0, zw (x2 + 1)), some (0, 0, x3)]) (zTb t_Arrays_fill 12 rfl) rfl rfl (by decide) (zE_goto (zTb t_Arrays_fill 13 rfl) rfl ((h.2 c1).2)))))))))
/-! Math_min_III -/
set_option maxRecDepth 20000 in
theorem s_Math_min_III_0 {X : zX} {g : Bool} {l : Launch} {d d1 : Nat} {x0 x1 : Int} {μ : zM} {Q : Option zV → zM → Prop}
    (h : Q (some (0, 0, (if x1 < x0 then (x1 : Int) else x0))) μ) :
    zE X g l d 0 0 y_Math_min_III 0 [some (0, 0, x0), some (0, 0, x1)] [] μ Q :=
  zE_iload_n (zTb t_Math_min_III 0 rfl) rfl (zE_iload_n (zTb t_Math_min_III 1 rfl) rfl ((fun k1 => zE_icmpgt (zTb t_Math_min_III 2 rfl) rfl (fun c2 => zE_iload_n (zTb t_Math_min_III 5 rfl) rfl (zif_t (P := fun w => zE X g l d 0 0 y_Math_min_III 10 [some (0, 0, x0), some (0, 0, x1)] [(0, 0, w)] μ Q) c2 k1)) (fun c2 => zE_iload_n (zTb t_Math_min_III 3 rfl) rfl (zE_goto (zTb t_Math_min_III 4 rfl) rfl (zif_f (P := fun w => zE X g l d 0 0 y_Math_min_III 10 [some (0, 0, x0), some (0, 0, x1)] [(0, 0, w)] μ Q) c2 k1)))) (zE_iret (zTb t_Math_min_III 6 rfl) rfl h)))
theorem c_Math_min_III {X : zX} {g : Bool} {l : Launch} {d d1 : Nat} {x0 x1 : Int} {μ : zM} {Q : Int → zM → Prop}
    (h : Q (if x1 < x0 then (x1 : Int) else x0) μ) :
    zCi X g l d 0 0 y_Math_min_III [(0, 0, x0), (0, 0, x1)] μ Q :=
  zC'_of rfl (Nat.le_of_ble_eq_true rfl) rfl (s_Math_min_III_0 (Q := (zri Q)) h)
/-! Str_length -/
set_option maxRecDepth 20000 in
theorem s_Str_length_0 {X : zX} {l : Launch} {d d1 : Nat} {j0 : Nat} {μ : zM} {Q : Option zV → zM → Prop} (hj : j0 < 18) (hdd : d1 + 1 ≤ d)
    (h : (zCi X true l d1 0 0 y_Str_coder [(33, j0, (10 + (j0 : Int)))] μ (fun v2 ν1 => Q (some (0, 0, zshr ((zlen.getD j0 0 : Int)) v2)) ν1))) :
    zE X true l d 0 0 y_Str_length 0 [some (33, j0, (10 + (j0 : Int)))] [] μ Q :=
  zE_aload_n (zTb t_Str_length 0 rfl) rfl (zE_txval hj (zTb t_Str_length 1 rfl) (zs8 92 rfl) (zE_bylen hj (zTb t_Str_length 2 rfl) (zE_aload_n (zTb t_Str_length 3 rfl) rfl (zG_callS (as := []) (rest := [(0, 0, (zlen.getD j0 0 : Int))]) rfl (zTb t_Str_length 4 rfl) lm_Str_335 hj rfl np_Str_coder hdd (Nat.le_of_ble_eq_true rfl) (zCi_use (fun v2 ν1 k3 => zE_ishr (zTb t_Str_length 5 rfl) (zE_iret (zTb t_Str_length 6 rfl) rfl k3)) h)))))
theorem c_Str_length {X : zX} {l : Launch} {d d1 : Nat} {j0 : Nat} {μ : zM} {Q : Int → zM → Prop} (hj : j0 < 18) (hdd : d1 + 1 ≤ d)
    (h : (zCi X true l d1 0 0 y_Str_coder [(33, j0, (10 + (j0 : Int)))] μ (fun v2 ν1 => Q (zshr ((zlen.getD j0 0 : Int)) v2) ν1))) :
    zCi X true l d 0 0 y_Str_length [(33, j0, (10 + (j0 : Int)))] μ Q :=
  zC'_of rfl (Nat.le_of_ble_eq_true rfl) rfl (s_Str_length_0 (Q := (zri Q)) hj hdd h)
/-! Str_coder -/
set_option maxRecDepth 20000 in
theorem s_Str_coder_0 {X : zX} {l : Launch} {d d1 : Nat} {j0 : Nat} {μ : zM} {Q : Option zV → zM → Prop} (hj : j0 < 18)
    (h : (narrow .byte (.int (Int32.ofInt (if (1 : Int) = 0 then (1 : Int) else 0))) = .int (Int32.ofInt (if (1 : Int) = 0 then (1 : Int) else 0)) ∧ Q (some (0, 0, (if (1 : Int) = 0 then (1 : Int) else 0))) μ)) :
    zE X true l d 0 0 y_Str_coder 0 [some (33, j0, (10 + (j0 : Int)))] [] μ Q :=
  zE_compact (zTb t_Str_coder 0 rfl) (zs3 100 rfl) ((fun k1 => zE_ifeq (zTb t_Str_coder 1 rfl) rfl (fun c2 => zE_iconst (zTb t_Str_coder 5 rfl) (by decide) (by decide) (zif_t (P := fun w => zE X true l d 0 0 y_Str_coder 14 [some (33, j0, (10 + (j0 : Int)))] [(0, 0, w)] μ Q) c2 k1)) (fun c2 => zE_aload_n (zTb t_Str_coder 2 rfl) rfl (zE_txcod hj (zTb t_Str_coder 3 rfl) (zs8 93 rfl) (zE_goto (zTb t_Str_coder 4 rfl) rfl (zif_f (P := fun w => zE X true l d 0 0 y_Str_coder 14 [some (33, j0, (10 + (j0 : Int)))] [(0, 0, w)] μ Q) c2 k1))))) (zE_zret (zTb t_Str_coder 6 rfl) rfl h.1 h.2))
theorem c_Str_coder {X : zX} {l : Launch} {d d1 : Nat} {j0 : Nat} {μ : zM} {Q : Int → zM → Prop} (hj : j0 < 18)
    (h : (narrow .byte (.int (Int32.ofInt (if (1 : Int) = 0 then (1 : Int) else 0))) = .int (Int32.ofInt (if (1 : Int) = 0 then (1 : Int) else 0)) ∧ Q (if (1 : Int) = 0 then (1 : Int) else 0) μ)) :
    zCi X true l d 0 0 y_Str_coder [(33, j0, (10 + (j0 : Int)))] μ Q :=
  zC'_of rfl (Nat.le_of_ble_eq_true rfl) rfl (s_Str_coder_0 (Q := (zri Q)) hj h)
/-! Str_charAt -/
set_option maxRecDepth 20000 in
theorem s_Str_charAt_0 {X : zX} {l : Launch} {d d1 : Nat} {j0 : Nat} {x1 : Int} {μ : zM} {Q : Option zV → zM → Prop} (hj : j0 < 18) (hdd : d1 + 1 ≤ d)
    (h : (zCi X true l d1 0 0 y_Str_isLatin1 [(33, j0, (10 + (j0 : Int)))] μ (fun v2 ν1 => ((v2 = 0 → False) ∧ (¬ v2 = 0 → (zCi X true l d1 0 0 y_Lat_charAt [(35, j0, (40 + (j0 : Int))), (0, 0, x1)] ν1 (fun v6 ν5 => (narrow .char (.int (Int32.ofInt v6)) = .int (Int32.ofInt v6) ∧ Q (some (0, 0, v6)) ν5)))))))) :
    zE X true l d 0 0 y_Str_charAt 0 [some (33, j0, (10 + (j0 : Int))), some (0, 0, x1)] [] μ Q :=
  zE_aload_n (zTb t_Str_charAt 0 rfl) rfl (zG_callS (as := []) (rest := []) rfl (zTb t_Str_charAt 1 rfl) lm_Str_492 hj rfl np_Str_isLatin1 hdd (Nat.le_of_ble_eq_true rfl) (zCi_use (fun v2 ν1 k3 => zE_ifeq (zTb t_Str_charAt 2 rfl) rfl (fun c4 => zE_aload_n (zTb t_Str_charAt 8 rfl) rfl (zE_txval hj (zTb t_Str_charAt 9 rfl) (zs8 92 rfl) (zE_iload_n (zTb t_Str_charAt 10 rfl) rfl (((k3.1 c4)).elim)))) (fun c4 => zE_aload_n (zTb t_Str_charAt 3 rfl) rfl (zE_txval hj (zTb t_Str_charAt 4 rfl) (zs8 92 rfl) (zE_iload_n (zTb t_Str_charAt 5 rfl) rfl (zG_calls (as := [(35, j0, (40 + (j0 : Int))), (0, 0, x1)]) (rest := []) rfl (zTb t_Str_charAt 6 rfl) lm_Str_495 np_Lat_charAt hdd (Nat.le_of_ble_eq_true rfl) (zCi_use (fun v6 ν5 k7 => zE_zret (zTb t_Str_charAt 7 rfl) rfl k7.1 k7.2) (k3.2 c4))))))) h))
theorem c_Str_charAt {X : zX} {l : Launch} {d d1 : Nat} {j0 : Nat} {x1 : Int} {μ : zM} {Q : Int → zM → Prop} (hj : j0 < 18) (hdd : d1 + 1 ≤ d)
    (h : (zCi X true l d1 0 0 y_Str_isLatin1 [(33, j0, (10 + (j0 : Int)))] μ (fun v2 ν1 => ((v2 = 0 → False) ∧ (¬ v2 = 0 → (zCi X true l d1 0 0 y_Lat_charAt [(35, j0, (40 + (j0 : Int))), (0, 0, x1)] ν1 (fun v6 ν5 => (narrow .char (.int (Int32.ofInt v6)) = .int (Int32.ofInt v6) ∧ Q v6 ν5)))))))) :
    zCi X true l d 0 0 y_Str_charAt [(33, j0, (10 + (j0 : Int))), (0, 0, x1)] μ Q :=
  zC'_of rfl (Nat.le_of_ble_eq_true rfl) rfl (s_Str_charAt_0 (Q := (zri Q)) hj hdd h)
/-! Str_isLatin1 -/
set_option maxRecDepth 20000 in
theorem s_Str_isLatin1_0 {X : zX} {l : Launch} {d d1 : Nat} {j0 : Nat} {μ : zM} {Q : Option zV → zM → Prop} (hj : j0 < 18)
    (h : (((1 : Int) = 0 → Q (some (0, 0, 0)) μ) ∧ (¬ (1 : Int) = 0 → ((¬ (0 : Int) = 0 → Q (some (0, 0, 0)) μ) ∧ ((0 : Int) = 0 → Q (some (0, 0, 1)) μ))))) :
    zE X true l d 0 0 y_Str_isLatin1 0 [some (33, j0, (10 + (j0 : Int)))] [] μ Q :=
  zE_compact (zTb t_Str_isLatin1 0 rfl) (zs3 100 rfl) (zE_ifeq (zTb t_Str_isLatin1 1 rfl) rfl (fun c1 => zE_iconst (zTb t_Str_isLatin1 7 rfl) (by decide) (by decide) (zE_bret (zTb t_Str_isLatin1 8 rfl) rfl (by decide) (h.1 c1))) (fun c1 => zE_aload_n (zTb t_Str_isLatin1 2 rfl) rfl (zE_txcod hj (zTb t_Str_isLatin1 3 rfl) (zs8 93 rfl) (zE_ifne (zTb t_Str_isLatin1 4 rfl) rfl (fun c2 => zE_iconst (zTb t_Str_isLatin1 7 rfl) (by decide) (by decide) (zE_bret (zTb t_Str_isLatin1 8 rfl) rfl (by decide) ((h.2 c1).1 c2))) (fun c2 => zE_iconst (zTb t_Str_isLatin1 5 rfl) (by decide) (by decide) (zE_goto (zTb t_Str_isLatin1 6 rfl) rfl (zE_bret (zTb t_Str_isLatin1 8 rfl) rfl (by decide) ((h.2 c1).2 c2))))))))
theorem c_Str_isLatin1 {X : zX} {l : Launch} {d d1 : Nat} {j0 : Nat} {μ : zM} {Q : Int → zM → Prop} (hj : j0 < 18)
    (h : (((1 : Int) = 0 → Q 0 μ) ∧ (¬ (1 : Int) = 0 → ((¬ (0 : Int) = 0 → Q 0 μ) ∧ ((0 : Int) = 0 → Q 1 μ))))) :
    zCi X true l d 0 0 y_Str_isLatin1 [(33, j0, (10 + (j0 : Int)))] μ Q :=
  zC'_of rfl (Nat.le_of_ble_eq_true rfl) rfl (s_Str_isLatin1_0 (Q := (zri Q)) hj h)
/-! Lat_charAt -/
set_option maxRecDepth 20000 in
theorem s_Lat_charAt_0 {X : zX} {l : Launch} {d d1 : Nat} {j0 : Nat} {x1 : Int} {μ : zM} {Q : Option zV → zM → Prop} (hj : j0 < 18) (hdd : d1 + 1 ≤ d)
    (h : (zCv X true l d1 0 0 y_Str_checkIndex [(0, 0, x1), (0, 0, (zlen.getD j0 0 : Int))] μ (fun ν1 => (((0 : Int) ≤ x1 ∧ x1 < (zlen.getD j0 0 : Int)) ∧ ((0 ≤ zand (((zbyt.getD j0 []).getD (x1).toNat 0).toInt) 255 ∧ zand (((zbyt.getD j0 []).getD (x1).toNat 0).toInt) 255 < 65536) ∧ (narrow .char (.int (Int32.ofInt (zand (((zbyt.getD j0 []).getD (x1).toNat 0).toInt) 255))) = .int (Int32.ofInt (zand (((zbyt.getD j0 []).getD (x1).toNat 0).toInt) 255)) ∧ Q (some (0, 0, zand (((zbyt.getD j0 []).getD (x1).toNat 0).toInt) 255)) ν1)))))) :
    zE X true l d 0 0 y_Lat_charAt 0 [some (35, j0, (40 + (j0 : Int))), some (0, 0, x1)] [] μ Q :=
  zE_iload_n (zTb t_Lat_charAt 0 rfl) rfl (zE_aload_n (zTb t_Lat_charAt 1 rfl) rfl (zE_bylen hj (zTb t_Lat_charAt 2 rfl) (zG_calls (as := [(0, 0, x1), (0, 0, (zlen.getD j0 0 : Int))]) (rest := []) rfl (zTb t_Lat_charAt 3 rfl) lm_Lat_9 np_Str_checkIndex hdd (Nat.le_of_ble_eq_true rfl) (zCv_use (fun ν1 k2 => zE_aload_n (zTb t_Lat_charAt 4 rfl) rfl (zE_iload_n (zTb t_Lat_charAt 5 rfl) rfl (zE_byat hj (zTb t_Lat_charAt 6 rfl) k2.1 (zE_sipush (zTb t_Lat_charAt 7 rfl) rfl (by decide) (by decide) (zE_iand (zTb t_Lat_charAt 8 rfl) (zE_i2c (zTb t_Lat_charAt 9 rfl) (k2.2.1).1 (k2.2.1).2 (zE_zret (zTb t_Lat_charAt 10 rfl) rfl k2.2.2.1 k2.2.2.2))))))) h))))
theorem c_Lat_charAt {X : zX} {l : Launch} {d d1 : Nat} {j0 : Nat} {x1 : Int} {μ : zM} {Q : Int → zM → Prop} (hj : j0 < 18) (hdd : d1 + 1 ≤ d)
    (h : (zCv X true l d1 0 0 y_Str_checkIndex [(0, 0, x1), (0, 0, (zlen.getD j0 0 : Int))] μ (fun ν1 => (((0 : Int) ≤ x1 ∧ x1 < (zlen.getD j0 0 : Int)) ∧ ((0 ≤ zand (((zbyt.getD j0 []).getD (x1).toNat 0).toInt) 255 ∧ zand (((zbyt.getD j0 []).getD (x1).toNat 0).toInt) 255 < 65536) ∧ (narrow .char (.int (Int32.ofInt (zand (((zbyt.getD j0 []).getD (x1).toNat 0).toInt) 255))) = .int (Int32.ofInt (zand (((zbyt.getD j0 []).getD (x1).toNat 0).toInt) 255)) ∧ Q (zand (((zbyt.getD j0 []).getD (x1).toNat 0).toInt) 255) ν1)))))) :
    zCi X true l d 0 0 y_Lat_charAt [(35, j0, (40 + (j0 : Int))), (0, 0, x1)] μ Q :=
  zC'_of rfl (Nat.le_of_ble_eq_true rfl) rfl (s_Lat_charAt_0 (Q := (zri Q)) hj hdd h)
/-! Str_checkIndex -/
set_option maxRecDepth 20000 in
theorem s_Str_checkIndex_0 {X : zX} {l : Launch} {d d1 : Nat} {x0 x1 : Int} {μ : zM} {Q : Option zV → zM → Prop} (hdd : d1 + 1 ≤ d)
    (h : (∀ u1 : Int, (zCi X true l d1 0 0 y_Pre_checkIndex [(0, 0, x0), (0, 0, x1), (140, 0, u1)] μ (fun v3 ν2 => Q none ν2)))) :
    zE X true l d 0 0 y_Str_checkIndex 0 [some (0, 0, x0), some (0, 0, x1)] [] μ Q :=
  zE_iload_n (zTb t_Str_checkIndex 0 rfl) rfl (zE_iload_n (zTb t_Str_checkIndex 1 rfl) rfl (zE_fmt (zTb t_Str_checkIndex 2 rfl) (zs3 116 rfl) (fun u1 => zG_calls (as := [(0, 0, x0), (0, 0, x1), (140, 0, u1)]) (rest := []) rfl (zTb t_Str_checkIndex 3 rfl) lm_Str_1059 np_Pre_checkIndex hdd (Nat.le_of_ble_eq_true rfl) (zCi_use (fun v3 ν2 k4 => zE_pop (zTb t_Str_checkIndex 4 rfl) (by simp) (zE_ret (zTb t_Str_checkIndex 5 rfl) rfl k4)) (h u1)))))
theorem c_Str_checkIndex {X : zX} {l : Launch} {d d1 : Nat} {x0 x1 : Int} {μ : zM} {Q : zM → Prop} (hdd : d1 + 1 ≤ d)
    (h : (∀ u1 : Int, (zCi X true l d1 0 0 y_Pre_checkIndex [(0, 0, x0), (0, 0, x1), (140, 0, u1)] μ (fun v3 ν2 => Q ν2)))) :
    zCv X true l d 0 0 y_Str_checkIndex [(0, 0, x0), (0, 0, x1)] μ Q :=
  zC'_of rfl (Nat.le_of_ble_eq_true rfl) rfl (s_Str_checkIndex_0 (Q := (zrn Q)) hdd h)
/-! Pre_checkIndex -/
set_option maxRecDepth 20000 in
theorem s_Pre_checkIndex_0 {X : zX} {l : Launch} {d d1 : Nat} {x0 x1 a2 : Int} {μ : zM} {Q : Option zV → zM → Prop}
    (h : ((x0 < 0 → False) ∧ (¬ x0 < 0 → ((x0 < x1 → Q (some (0, 0, x0)) μ) ∧ (¬ x0 < x1 → False))))) :
    zE X true l d 0 0 y_Pre_checkIndex 0 [some (0, 0, x0), some (0, 0, x1), some (140, 0, a2)] [] μ Q :=
  zE_iload_n (zTb t_Pre_checkIndex 0 rfl) rfl (zE_iflt (zTb t_Pre_checkIndex 1 rfl) rfl (fun c1 => ((h.1 c1)).elim) (fun c1 => zE_iload_n (zTb t_Pre_checkIndex 2 rfl) rfl (zE_iload_n (zTb t_Pre_checkIndex 3 rfl) rfl (zE_icmplt (zTb t_Pre_checkIndex 4 rfl) rfl (fun c2 => zE_iload_n (zTb t_Pre_checkIndex 10 rfl) rfl (zE_iret (zTb t_Pre_checkIndex 11 rfl) rfl ((h.2 c1).1 c2))) (fun c2 => (((h.2 c1).2 c2)).elim)))))
theorem c_Pre_checkIndex {X : zX} {l : Launch} {d d1 : Nat} {x0 x1 a2 : Int} {μ : zM} {Q : Int → zM → Prop}
    (h : ((x0 < 0 → False) ∧ (¬ x0 < 0 → ((x0 < x1 → Q x0 μ) ∧ (¬ x0 < x1 → False))))) :
    zCi X true l d 0 0 y_Pre_checkIndex [(0, 0, x0), (0, 0, x1), (140, 0, a2)] μ Q :=
  zC'_of rfl (Nat.le_of_ble_eq_true rfl) rfl (s_Pre_checkIndex_0 (Q := (zri Q)) h)
/-! Integer_bitCount -/
set_option maxRecDepth 20000 in
theorem s_Integer_bitCount_0 {X : zX} {l : Launch} {d d1 : Nat} {x0 : Int} {μ : zM} {Q : Option zV → zM → Prop}
    (h : Q (some (0, 0, zand (zw ((zw ((zand (zw ((zw ((zand (zw (x0 - (zand (zushr x0 1) 1431655765))) 858993459) + (zand (zushr (zw (x0 - (zand (zushr x0 1) 1431655765))) 2) 858993459))) + (zushr (zw ((zand (zw (x0 - (zand (zushr x0 1) 1431655765))) 858993459) + (zand (zushr (zw (x0 - (zand (zushr x0 1) 1431655765))) 2) 858993459))) 4))) 252645135) + (zushr (zand (zw ((zw ((zand (zw (x0 - (zand (zushr x0 1) 1431655765))) 858993459) + (zand (zushr (zw (x0 - (zand (zushr x0 1) 1431655765))) 2) 858993459))) + (zushr (zw ((zand (zw (x0 - (zand (zushr x0 1) 1431655765))) 858993459) + (zand (zushr (zw (x0 - (zand (zushr x0 1) 1431655765))) 2) 858993459))) 4))) 252645135) 8))) + (zushr (zw ((zand (zw ((zw ((zand (zw (x0 - (zand (zushr x0 1) 1431655765))) 858993459) + (zand (zushr (zw (x0 - (zand (zushr x0 1) 1431655765))) 2) 858993459))) + (zushr (zw ((zand (zw (x0 - (zand (zushr x0 1) 1431655765))) 858993459) + (zand (zushr (zw (x0 - (zand (zushr x0 1) 1431655765))) 2) 858993459))) 4))) 252645135) + (zushr (zand (zw ((zw ((zand (zw (x0 - (zand (zushr x0 1) 1431655765))) 858993459) + (zand (zushr (zw (x0 - (zand (zushr x0 1) 1431655765))) 2) 858993459))) + (zushr (zw ((zand (zw (x0 - (zand (zushr x0 1) 1431655765))) 858993459) + (zand (zushr (zw (x0 - (zand (zushr x0 1) 1431655765))) 2) 858993459))) 4))) 252645135) 8))) 16))) 63)) μ) :
    zE X true l d 0 0 y_Integer_bitCount 0 [some (0, 0, x0)] [] μ Q :=
  zE_iload_n (zTb t_Integer_bitCount 0 rfl) rfl (zE_iload_n (zTb t_Integer_bitCount 1 rfl) rfl (zE_iconst (zTb t_Integer_bitCount 2 rfl) (by decide) (by decide) (zE_iushr (zTb t_Integer_bitCount 3 rfl) (zE_ldcw (zTb t_Integer_bitCount 4 rfl) (zs4 27 rfl) (by decide) (by decide) (zE_iand (zTb t_Integer_bitCount 5 rfl) (zE_isub (zTb t_Integer_bitCount 6 rfl) (zE_istore_n (ls' := [some (0, 0, zw (x0 - (zand (zushr x0 1) 1431655765)))]) (zTb t_Integer_bitCount 7 rfl) rfl (by decide) (zE_iload_n (zTb t_Integer_bitCount 8 rfl) rfl (zE_ldcw (zTb t_Integer_bitCount 9 rfl) (zs4 28 rfl) (by decide) (by decide) (zE_iand (zTb t_Integer_bitCount 10 rfl) (zE_iload_n (zTb t_Integer_bitCount 11 rfl) rfl (zE_iconst (zTb t_Integer_bitCount 12 rfl) (by decide) (by decide) (zE_iushr (zTb t_Integer_bitCount 13 rfl) (zE_ldcw (zTb t_Integer_bitCount 14 rfl) (zs4 28 rfl) (by decide) (by decide) (zE_iand (zTb t_Integer_bitCount 15 rfl) (zE_iadd (zTb t_Integer_bitCount 16 rfl) (zE_istore_n (ls' := [some (0, 0, zw ((zand (zw (x0 - (zand (zushr x0 1) 1431655765))) 858993459) + (zand (zushr (zw (x0 - (zand (zushr x0 1) 1431655765))) 2) 858993459)))]) (zTb t_Integer_bitCount 17 rfl) rfl (by decide) (zE_iload_n (zTb t_Integer_bitCount 18 rfl) rfl (zE_iload_n (zTb t_Integer_bitCount 19 rfl) rfl (zE_iconst (zTb t_Integer_bitCount 20 rfl) (by decide) (by decide) (zE_iushr (zTb t_Integer_bitCount 21 rfl) (zE_iadd (zTb t_Integer_bitCount 22 rfl) (zE_ldcw (zTb t_Integer_bitCount 23 rfl) (zs4 29 rfl) (by decide) (by decide) (zE_iand (zTb t_Integer_bitCount 24 rfl) (zE_istore_n (ls' := [some (0, 0, zand (zw ((zw ((zand (zw (x0 - (zand (zushr x0 1) 1431655765))) 858993459) + (zand (zushr (zw (x0 - (zand (zushr x0 1) 1431655765))) 2) 858993459))) + (zushr (zw ((zand (zw (x0 - (zand (zushr x0 1) 1431655765))) 858993459) + (zand (zushr (zw (x0 - (zand (zushr x0 1) 1431655765))) 2) 858993459))) 4))) 252645135)]) (zTb t_Integer_bitCount 25 rfl) rfl (by decide) (zE_iload_n (zTb t_Integer_bitCount 26 rfl) rfl (zE_iload_n (zTb t_Integer_bitCount 27 rfl) rfl (zE_bipush (zTb t_Integer_bitCount 28 rfl) rfl (by decide) (by decide) (zE_iushr (zTb t_Integer_bitCount 29 rfl) (zE_iadd (zTb t_Integer_bitCount 30 rfl) (zE_istore_n (ls' := [some (0, 0, zw ((zand (zw ((zw ((zand (zw (x0 - (zand (zushr x0 1) 1431655765))) 858993459) + (zand (zushr (zw (x0 - (zand (zushr x0 1) 1431655765))) 2) 858993459))) + (zushr (zw ((zand (zw (x0 - (zand (zushr x0 1) 1431655765))) 858993459) + (zand (zushr (zw (x0 - (zand (zushr x0 1) 1431655765))) 2) 858993459))) 4))) 252645135) + (zushr (zand (zw ((zw ((zand (zw (x0 - (zand (zushr x0 1) 1431655765))) 858993459) + (zand (zushr (zw (x0 - (zand (zushr x0 1) 1431655765))) 2) 858993459))) + (zushr (zw ((zand (zw (x0 - (zand (zushr x0 1) 1431655765))) 858993459) + (zand (zushr (zw (x0 - (zand (zushr x0 1) 1431655765))) 2) 858993459))) 4))) 252645135) 8)))]) (zTb t_Integer_bitCount 31 rfl) rfl (by decide) (zE_iload_n (zTb t_Integer_bitCount 32 rfl) rfl (zE_iload_n (zTb t_Integer_bitCount 33 rfl) rfl (zE_bipush (zTb t_Integer_bitCount 34 rfl) rfl (by decide) (by decide) (zE_iushr (zTb t_Integer_bitCount 35 rfl) (zE_iadd (zTb t_Integer_bitCount 36 rfl) (zE_istore_n (ls' := [some (0, 0, zw ((zw ((zand (zw ((zw ((zand (zw (x0 - (zand (zushr x0 1) 1431655765))) 858993459) + (zand (zushr (zw (x0 - (zand (zushr x0 1) 1431655765))) 2) 858993459))) + (zushr (zw ((zand (zw (x0 - (zand (zushr x0 1) 1431655765))) 858993459) + (zand (zushr (zw (x0 - (zand (zushr x0 1) 1431655765))) 2) 858993459))) 4))) 252645135) + (zushr (zand (zw ((zw ((zand (zw (x0 - (zand (zushr x0 1) 1431655765))) 858993459) + (zand (zushr (zw (x0 - (zand (zushr x0 1) 1431655765))) 2) 858993459))) + (zushr (zw ((zand (zw (x0 - (zand (zushr x0 1) 1431655765))) 858993459) + (zand (zushr (zw (x0 - (zand (zushr x0 1) 1431655765))) 2) 858993459))) 4))) 252645135) 8))) + (zushr (zw ((zand (zw ((zw ((zand (zw (x0 - (zand (zushr x0 1) 1431655765))) 858993459) + (zand (zushr (zw (x0 - (zand (zushr x0 1) 1431655765))) 2) 858993459))) + (zushr (zw ((zand (zw (x0 - (zand (zushr x0 1) 1431655765))) 858993459) + (zand (zushr (zw (x0 - (zand (zushr x0 1) 1431655765))) 2) 858993459))) 4))) 252645135) + (zushr (zand (zw ((zw ((zand (zw (x0 - (zand (zushr x0 1) 1431655765))) 858993459) + (zand (zushr (zw (x0 - (zand (zushr x0 1) 1431655765))) 2) 858993459))) + (zushr (zw ((zand (zw (x0 - (zand (zushr x0 1) 1431655765))) 858993459) + (zand (zushr (zw (x0 - (zand (zushr x0 1) 1431655765))) 2) 858993459))) 4))) 252645135) 8))) 16)))]) (zTb t_Integer_bitCount 37 rfl) rfl (by decide) (zE_iload_n (zTb t_Integer_bitCount 38 rfl) rfl (zE_bipush (zTb t_Integer_bitCount 39 rfl) rfl (by decide) (by decide) (zE_iand (zTb t_Integer_bitCount 40 rfl) (zE_iret (zTb t_Integer_bitCount 41 rfl) rfl h)))))))))))))))))))))))))))))))))))))))))
theorem c_Integer_bitCount {X : zX} {l : Launch} {d d1 : Nat} {x0 : Int} {μ : zM} {Q : Int → zM → Prop}
    (h : Q (zand (zw ((zw ((zand (zw ((zw ((zand (zw (x0 - (zand (zushr x0 1) 1431655765))) 858993459) + (zand (zushr (zw (x0 - (zand (zushr x0 1) 1431655765))) 2) 858993459))) + (zushr (zw ((zand (zw (x0 - (zand (zushr x0 1) 1431655765))) 858993459) + (zand (zushr (zw (x0 - (zand (zushr x0 1) 1431655765))) 2) 858993459))) 4))) 252645135) + (zushr (zand (zw ((zw ((zand (zw (x0 - (zand (zushr x0 1) 1431655765))) 858993459) + (zand (zushr (zw (x0 - (zand (zushr x0 1) 1431655765))) 2) 858993459))) + (zushr (zw ((zand (zw (x0 - (zand (zushr x0 1) 1431655765))) 858993459) + (zand (zushr (zw (x0 - (zand (zushr x0 1) 1431655765))) 2) 858993459))) 4))) 252645135) 8))) + (zushr (zw ((zand (zw ((zw ((zand (zw (x0 - (zand (zushr x0 1) 1431655765))) 858993459) + (zand (zushr (zw (x0 - (zand (zushr x0 1) 1431655765))) 2) 858993459))) + (zushr (zw ((zand (zw (x0 - (zand (zushr x0 1) 1431655765))) 858993459) + (zand (zushr (zw (x0 - (zand (zushr x0 1) 1431655765))) 2) 858993459))) 4))) 252645135) + (zushr (zand (zw ((zw ((zand (zw (x0 - (zand (zushr x0 1) 1431655765))) 858993459) + (zand (zushr (zw (x0 - (zand (zushr x0 1) 1431655765))) 2) 858993459))) + (zushr (zw ((zand (zw (x0 - (zand (zushr x0 1) 1431655765))) 858993459) + (zand (zushr (zw (x0 - (zand (zushr x0 1) 1431655765))) 2) 858993459))) 4))) 252645135) 8))) 16))) 63) μ) :
    zCi X true l d 0 0 y_Integer_bitCount [(0, 0, x0)] μ Q :=
  zC'_of rfl (Nat.le_of_ble_eq_true rfl) rfl (s_Integer_bitCount_0 (Q := (zri Q)) h)
/-! Math_max_JJJ -/
set_option maxRecDepth 20000 in
theorem s_Math_max_JJJ_0 {X : zX} {g : Bool} {l : Launch} {d d1 : Nat} {x0 x2 : Int} {μ : zM} {Q : Option zV → zM → Prop}
    (h : Q (some (1, 0, (if zcmp x0 x2 < 0 then (x2 : Int) else x0))) μ) :
    zE X g l d 0 0 y_Math_max_JJJ 0 [some (1, 0, x0), none, some (1, 0, x2), none] [] μ Q :=
  zE_lload_n (zTb t_Math_max_JJJ 0 rfl) rfl (zE_lload_n (zTb t_Math_max_JJJ 1 rfl) rfl (zE_lcmp (zTb t_Math_max_JJJ 2 rfl) ((fun k1 => zE_iflt (zTb t_Math_max_JJJ 3 rfl) rfl (fun c2 => zE_lload_n (zTb t_Math_max_JJJ 6 rfl) rfl (zif_t (P := fun w => zE X g l d 0 0 y_Math_max_JJJ 11 [some (1, 0, x0), none, some (1, 0, x2), none] [(1, 0, w)] μ Q) c2 k1)) (fun c2 => zE_lload_n (zTb t_Math_max_JJJ 4 rfl) rfl (zE_goto (zTb t_Math_max_JJJ 5 rfl) rfl (zif_f (P := fun w => zE X g l d 0 0 y_Math_max_JJJ 11 [some (1, 0, x0), none, some (1, 0, x2), none] [(1, 0, w)] μ Q) c2 k1)))) (zE_lret (zTb t_Math_max_JJJ 7 rfl) rfl h))))
theorem c_Math_max_JJJ {X : zX} {g : Bool} {l : Launch} {d d1 : Nat} {x0 x2 : Int} {μ : zM} {Q : Int → zM → Prop}
    (h : Q (if zcmp x0 x2 < 0 then (x2 : Int) else x0) μ) :
    zCl X g l d 0 0 y_Math_max_JJJ [(1, 0, x0), (1, 0, x2)] μ Q :=
  zC'_of rfl (Nat.le_of_ble_eq_true rfl) rfl (s_Math_max_JJJ_0 (Q := (zrl Q)) h)
/-! Math_min_JJJ -/
set_option maxRecDepth 20000 in
theorem s_Math_min_JJJ_0 {X : zX} {g : Bool} {l : Launch} {d d1 : Nat} {x0 x2 : Int} {μ : zM} {Q : Option zV → zM → Prop}
    (h : Q (some (1, 0, (if 0 < zcmp x0 x2 then (x2 : Int) else x0))) μ) :
    zE X g l d 0 0 y_Math_min_JJJ 0 [some (1, 0, x0), none, some (1, 0, x2), none] [] μ Q :=
  zE_lload_n (zTb t_Math_min_JJJ 0 rfl) rfl (zE_lload_n (zTb t_Math_min_JJJ 1 rfl) rfl (zE_lcmp (zTb t_Math_min_JJJ 2 rfl) ((fun k1 => zE_ifgt (zTb t_Math_min_JJJ 3 rfl) rfl (fun c2 => zE_lload_n (zTb t_Math_min_JJJ 6 rfl) rfl (zif_t (P := fun w => zE X g l d 0 0 y_Math_min_JJJ 11 [some (1, 0, x0), none, some (1, 0, x2), none] [(1, 0, w)] μ Q) c2 k1)) (fun c2 => zE_lload_n (zTb t_Math_min_JJJ 4 rfl) rfl (zE_goto (zTb t_Math_min_JJJ 5 rfl) rfl (zif_f (P := fun w => zE X g l d 0 0 y_Math_min_JJJ 11 [some (1, 0, x0), none, some (1, 0, x2), none] [(1, 0, w)] μ Q) c2 k1)))) (zE_lret (zTb t_Math_min_JJJ 7 rfl) rfl h))))
theorem c_Math_min_JJJ {X : zX} {g : Bool} {l : Launch} {d d1 : Nat} {x0 x2 : Int} {μ : zM} {Q : Int → zM → Prop}
    (h : Q (if 0 < zcmp x0 x2 then (x2 : Int) else x0) μ) :
    zCl X g l d 0 0 y_Math_min_JJJ [(1, 0, x0), (1, 0, x2)] μ Q :=
  zC'_of rfl (Nat.le_of_ble_eq_true rfl) rfl (s_Math_min_JJJ_0 (Q := (zrl Q)) h)
/-! Math_abs -/
set_option maxRecDepth 20000 in
theorem s_Math_abs_0 {X : zX} {g : Bool} {l : Launch} {d d1 : Nat} {x0 : Int} {μ : zM} {Q : Option zV → zM → Prop}
    (h : Q (some (0, 0, (if 0 ≤ x0 then (x0 : Int) else zw (-x0)))) μ) :
    zE X g l d 0 0 y_Math_abs 0 [some (0, 0, x0)] [] μ Q :=
  zE_iload_n (zTb t_Math_abs 0 rfl) rfl ((fun k1 => zE_ifge (zTb t_Math_abs 1 rfl) rfl (fun c2 => zE_iload_n (zTb t_Math_abs 5 rfl) rfl (zif_t (P := fun w => zE X g l d 0 0 y_Math_abs 10 [some (0, 0, x0)] [(0, 0, w)] μ Q) c2 k1)) (fun c2 => zE_iload_n (zTb t_Math_abs 2 rfl) rfl (zE_ineg (zTb t_Math_abs 3 rfl) (zE_goto (zTb t_Math_abs 4 rfl) rfl (zif_f (P := fun w => zE X g l d 0 0 y_Math_abs 10 [some (0, 0, x0)] [(0, 0, w)] μ Q) c2 k1))))) (zE_iret (zTb t_Math_abs 6 rfl) rfl h))
theorem c_Math_abs {X : zX} {g : Bool} {l : Launch} {d d1 : Nat} {x0 : Int} {μ : zM} {Q : Int → zM → Prop}
    (h : Q (if 0 ≤ x0 then (x0 : Int) else zw (-x0)) μ) :
    zCi X g l d 0 0 y_Math_abs [(0, 0, x0)] μ Q :=
  zC'_of rfl (Nat.le_of_ble_eq_true rfl) rfl (s_Math_abs_0 (Q := (zri Q)) h)

theorem zm_ini : Cond.initialized "java/lang/Math" ∈ lw_tbl := zs1 4 rfl
theorem zm_mmax_s : Cond.static Lib.Math.max.name ∈ lw_tbl := zs1 47 rfl
theorem zm_mmax_c : Cond.code Lib.Math.max.name Lib.Math.max.code 2 (some .int) ∈ lw_tbl := zs1 48 rfl
theorem zm_mmin_s : Cond.static Lib.Math.min.name ∈ lw_tbl := zs1 159 rfl
theorem zm_mmin_c : Cond.code Lib.Math.min.name Lib.Math.min.code 2 (some .int) ∈ lw_tbl := zs1 160 rfl
theorem zm_mmaxl_s : Cond.static Lib.MathLoose.max_long.x ∈ lw_tbl := zs4 42 rfl
theorem zm_mmaxl_c : Cond.code Lib.MathLoose.max_long.x Lib.MathLoose.max_long.code 4 (some .long) ∈ lw_tbl := zs4 43 rfl
theorem zm_mminl_s : Cond.static Lib.MathLoose.min_long.x ∈ lw_tbl := zs4 46 rfl
theorem zm_mminl_c : Cond.code Lib.MathLoose.min_long.x Lib.MathLoose.min_long.code 4 (some .long) ∈ lw_tbl := zs4 47 rfl
theorem zm_mabs_s : Cond.static Lib.Math.abs.name ∈ lw_tbl := zs4 199 rfl
theorem zm_mabs_c : Cond.code Lib.Math.abs.name Lib.Math.abs.code 1 (some .int) ∈ lw_tbl := zs4 200 rfl
section
variable {X : zX} {g : Bool} {l : Launch} {d d' bc bs mc ms : Nat} {y q : zMt} {pc pc' : Nat} {ls ls' : List (Option zV)} {st st' rest as : List zV} {μ : zM} {Q : Option zV → zM → Prop}
theorem zM_sum {X : zX} {st : List zV} {n : Nat} (hw : (st.map fun v => if v.1 = 1 then 2 else 1).sum ≤ n) : ((st.map (zrv X)).map fun v => v.category).sum ≤ n := by
  rw [List.map_map]
  refine Nat.le_trans (Nat.le_of_eq ?_) hw
  congr 1
  exact List.map_congr_left fun v _ => zrv_cat v
theorem zG_mmax {n : Nat} {a b : Int} (hl : Cond.methodLink y.1.cls n Lib.Math.max.name ∈ lw_tbl) (hd : zI y.2.1 pc (.invokestatic n) 3 pc') (hdd : 1 ≤ d) (hw : (st.map fun v => if v.1 = 1 then 2 else 1).sum ≤ 8) (k : zE X g l d bc bs y pc' ls ((0, 0, (if a < b then b else a)) :: st) μ Q) : zE X g l d bc bs y pc ls ((0, 0, b) :: (0, 0, a) :: st) μ Q := by
  obtain ⟨hd, rfl⟩ := hd
  intro p e R s m args below meth c H locs la cells slots hE hR hS hM hL hst
  have hK : zKn X s := hE.2.2.2.2.2.2.2.2.1
  have hb := zok_ir (zcons hst).1
  have ha := zok_ir (zcons (zcons hst).2).1
  have hs := zM_sum (X := X) hw
  have e1 : (if Int32.ofInt a < Int32.ofInt b then Int32.ofInt b else Int32.ofInt a) = Int32.ofInt (if a < b then b else a) := by
    by_cases h : a < b
    · rw [if_pos ((z_lt ha hb).mpr h), if_pos h]
    · rw [if_neg (fun q => h ((z_lt ha hb).mp q)), if_neg h]
  refine va_mmax hE.1 hE.2.1 (hE.2.2.2.1.trans hL.1.symm) hE.2.2.2.2.1 (hK.word hl rfl rfl) (hK.word zm_mmax_s rfl rfl) (hK.word zm_ini rfl rfl) (hK.word zm_mmax_c rfl rfl) (by have := hR.1; omega) (by have := hR.2.1; omega) (by have := hR.2.2.1; omega) (by have := hR.2.2.2; omega) (x := Int32.ofInt a) (y := Int32.ofInt b) hd ?_
  rw [e1]
  exact k p e R s m args below meth c H locs la cells slots hE hR hS hM hL (zmk (by split <;> first | exact (zcons hst).1 | exact (zcons (zcons hst).2).1) (zcons (zcons hst).2).2)
theorem zG_mmin {n : Nat} {a b : Int} (hl : Cond.methodLink y.1.cls n Lib.Math.min.name ∈ lw_tbl) (hd : zI y.2.1 pc (.invokestatic n) 3 pc') (hdd : 1 ≤ d) (hw : (st.map fun v => if v.1 = 1 then 2 else 1).sum ≤ 8) (k : zE X g l d bc bs y pc' ls ((0, 0, (if b < a then b else a)) :: st) μ Q) : zE X g l d bc bs y pc ls ((0, 0, b) :: (0, 0, a) :: st) μ Q := by
  obtain ⟨hd, rfl⟩ := hd
  intro p e R s m args below meth c H locs la cells slots hE hR hS hM hL hst
  have hK : zKn X s := hE.2.2.2.2.2.2.2.2.1
  have hb := zok_ir (zcons hst).1
  have ha := zok_ir (zcons (zcons hst).2).1
  have hs := zM_sum (X := X) hw
  have e1 : (if Int32.ofInt b < Int32.ofInt a then Int32.ofInt b else Int32.ofInt a) = Int32.ofInt (if b < a then b else a) := by
    by_cases h : b < a
    · rw [if_pos ((z_lt hb ha).mpr h), if_pos h]
    · rw [if_neg (fun q => h ((z_lt hb ha).mp q)), if_neg h]
  refine va_mmin hE.1 hE.2.1 (hE.2.2.2.1.trans hL.1.symm) hE.2.2.2.2.1 (hK.word hl rfl rfl) (hK.word zm_mmin_s rfl rfl) (hK.word zm_ini rfl rfl) (hK.word zm_mmin_c rfl rfl) (by have := hR.1; omega) (by have := hR.2.1; omega) (by have := hR.2.2.1; omega) (by have := hR.2.2.2; omega) (x := Int32.ofInt a) (y := Int32.ofInt b) hd ?_
  rw [e1]
  exact k p e R s m args below meth c H locs la cells slots hE hR hS hM hL (zmk (by split <;> first | exact (zcons hst).1 | exact (zcons (zcons hst).2).1) (zcons (zcons hst).2).2)
theorem zG_mmaxl {n : Nat} {a b : Int} (hl : Cond.methodLink y.1.cls n Lib.MathLoose.max_long.x ∈ lw_tbl) (hd : zI y.2.1 pc (.invokestatic n) 3 pc') (hdd : 1 ≤ d) (hw : (st.map fun v => if v.1 = 1 then 2 else 1).sum ≤ 8) (k : zE X g l d bc bs y pc' ls ((1, 0, (if b < a then a else b)) :: st) μ Q) : zE X g l d bc bs y pc ls ((1, 0, b) :: (1, 0, a) :: st) μ Q := by
  obtain ⟨hd, rfl⟩ := hd
  intro p e R s m args below meth c H locs la cells slots hE hR hS hM hL hst
  have hK : zKn X s := hE.2.2.2.2.2.2.2.2.1
  have hb := zok_lr (zcons hst).1
  have ha := zok_lr (zcons (zcons hst).2).1
  have hs := zM_sum (X := X) hw
  have e1 : (if Int64.ofInt b < Int64.ofInt a then Int64.ofInt a else Int64.ofInt b) = Int64.ofInt (if b < a then a else b) := by
    by_cases h : b < a
    · rw [if_pos ((zl_lt hb ha).mpr h), if_pos h]
    · rw [if_neg (fun q => h ((zl_lt hb ha).mp q)), if_neg h]
  refine va_mmax_long hE.1 hE.2.1 (hE.2.2.2.1.trans hL.1.symm) hE.2.2.2.2.1 (hK.word hl rfl rfl) (hK.word zm_mmaxl_s rfl rfl) (hK.word zm_ini rfl rfl) (hK.word zm_mmaxl_c rfl rfl) (by have := hR.1; omega) (by have := hR.2.1; omega) (by have := hR.2.2.1; omega) (by have := hR.2.2.2; omega) (x := Int64.ofInt a) (y := Int64.ofInt b) hd ?_
  rw [e1]
  exact k p e R s m args below meth c H locs la cells slots hE hR hS hM hL (zmk (by split <;> first | exact (zcons hst).1 | exact (zcons (zcons hst).2).1) (zcons (zcons hst).2).2)
theorem zG_mminl {n : Nat} {a b : Int} (hl : Cond.methodLink y.1.cls n Lib.MathLoose.min_long.x ∈ lw_tbl) (hd : zI y.2.1 pc (.invokestatic n) 3 pc') (hdd : 1 ≤ d) (hw : (st.map fun v => if v.1 = 1 then 2 else 1).sum ≤ 8) (k : zE X g l d bc bs y pc' ls ((1, 0, (if b < a then b else a)) :: st) μ Q) : zE X g l d bc bs y pc ls ((1, 0, b) :: (1, 0, a) :: st) μ Q := by
  obtain ⟨hd, rfl⟩ := hd
  intro p e R s m args below meth c H locs la cells slots hE hR hS hM hL hst
  have hK : zKn X s := hE.2.2.2.2.2.2.2.2.1
  have hb := zok_lr (zcons hst).1
  have ha := zok_lr (zcons (zcons hst).2).1
  have hs := zM_sum (X := X) hw
  have e1 : (if Int64.ofInt b < Int64.ofInt a then Int64.ofInt b else Int64.ofInt a) = Int64.ofInt (if b < a then b else a) := by
    by_cases h : b < a
    · rw [if_pos ((zl_lt hb ha).mpr h), if_pos h]
    · rw [if_neg (fun q => h ((zl_lt hb ha).mp q)), if_neg h]
  refine va_mmin_long hE.1 hE.2.1 (hE.2.2.2.1.trans hL.1.symm) hE.2.2.2.2.1 (hK.word hl rfl rfl) (hK.word zm_mminl_s rfl rfl) (hK.word zm_ini rfl rfl) (hK.word zm_mminl_c rfl rfl) (by have := hR.1; omega) (by have := hR.2.1; omega) (by have := hR.2.2.1; omega) (by have := hR.2.2.2; omega) (x := Int64.ofInt a) (y := Int64.ofInt b) hd ?_
  rw [e1]
  exact k p e R s m args below meth c H locs la cells slots hE hR hS hM hL (zmk (by split <;> first | exact (zcons hst).1 | exact (zcons (zcons hst).2).1) (zcons (zcons hst).2).2)
theorem zG_mabs {n : Nat} {a : Int} (hl : Cond.methodLink y.1.cls n Lib.Math.abs.name ∈ lw_tbl) (hd : zI y.2.1 pc (.invokestatic n) 3 pc') (hdd : 1 ≤ d) (hw : (st.map fun v => if v.1 = 1 then 2 else 1).sum ≤ 8) (k : zE X g l d bc bs y pc' ls ((0, 0, (if 0 ≤ a then a else zw (-a))) :: st) μ Q) : zE X g l d bc bs y pc ls ((0, 0, a) :: st) μ Q := by
  obtain ⟨hd, rfl⟩ := hd
  intro p e R s m args below meth c H locs la cells slots hE hR hS hM hL hst
  have hK : zKn X s := hE.2.2.2.2.2.2.2.2.1
  have ha := zok_ir (zcons hst).1
  have hs := zM_sum (X := X) hw
  have e1 : (if 0 ≤ Int32.ofInt a then Int32.ofInt a else 0 - Int32.ofInt a) = Int32.ofInt (if 0 ≤ a then a else zw (-a)) := by
    have hz : (0 : Int32) ≤ Int32.ofInt a ↔ 0 ≤ a := z_le (a := 0) (by omega) ha
    by_cases h : 0 ≤ a
    · rw [if_pos (hz.mpr h), if_pos h]
    · rw [if_neg (fun q => h (hz.mp q)), if_neg h, zw_i, z_0, ← Int32.ofInt_sub]
      congr 1
      omega
  refine va_mabs hE.1 hE.2.1 (hE.2.2.2.1.trans hL.1.symm) hE.2.2.2.2.1 (hK.word hl rfl rfl) (hK.word zm_mabs_s rfl rfl) (hK.word zm_ini rfl rfl) (hK.word zm_mabs_c rfl rfl) (by have := hR.1; omega) (by have := hR.2.1; omega) (by have := hR.2.2.1; omega) (by have := hR.2.2.2; omega) (x := Int32.ofInt a) hd ?_
  rw [e1]
  exact k p e R s m args below meth c H locs la cells slots hE hR hS hM hL (zmk (by split <;> first | exact (zcons hst).1 | exact zok_i' _) (zcons hst).2)
end

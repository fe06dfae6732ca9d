section
variable {X : zX} {g : Bool} {l : Launch} {d d' bc bs mc ms : Nat} {y q : zMt} {pc pc' : Nat} {ls ls' : List (Option zV)} {st st' rest as : List zV} {μ : zM} {Q : Option zV → zM → Prop}
theorem zok_old {k L : Nat} {x : Int} (h1 : 32 ≤ k) (h2 : k < 100) (h : 0 ≤ x) : zok μ (k, L, x) :=
  ⟨fun q => absurd (show k = 0 from q) (by omega), fun q => absurd (show k = 1 from q) (by omega), fun _ _ => h, fun _ q => absurd (show k < 32 from q) (by omega), fun q => absurd (show 100 ≤ k from q) (by omega)⟩
theorem zrv_old {k L : Nat} {x : Nat} (h1 : 32 ≤ k) (h2 : k < 100) : zrv X (k, L, (x : Int)) = .ref (X.2.1 x) := by
  obtain ⟨j, rfl⟩ : ∃ j, k = j + 2 := ⟨k - 2, by omega⟩
  rw [zrv_ref (by omega)]
  simp only [zad, Int.toNat_natCast]
  rw [if_neg (by omega)]
/-- TENS: kind 32, length 0; THREES: kind 32, length 1 -/
theorem zE_tens {n : Nat} (hd : zI y.2.1 pc (.getstatic n) 3 pc') (hl : Cond.fieldLink y.1.cls n "SmokeRoom$Big" "TENS" "[I" ∈ lw_tbl) (k : zE X g l d bc bs y pc' ls ((32, 0, 0) :: st) μ Q) : zE X g l d bc bs y pc ls st μ Q := by
  obtain ⟨hd, rfl⟩ := hd
  intro p e R s m args below meth c H locs la cells slots hE hR hS hM hL hst
  have hK : zKn X s := hE.2.2.2.2.2.2.2.2.1
  refine va_gets hE.1 hE.2.1 hE.2.2.2.2.2.2.2.2.2.2.1.1 hS hE.2.2.2.2.1 (hK.word hl rfl rfl) (fun _ h => h) hd ?_
  exact k p e R s m args below meth c H locs la cells slots hE hR hS hM hL (zmk (zok_old (by omega) (by omega) (by omega)) hst)
theorem zE_threes {n : Nat} (hd : zI y.2.1 pc (.getstatic n) 3 pc') (hl : Cond.fieldLink y.1.cls n "SmokeRoom$Reckoner" "THREES" "[I" ∈ lw_tbl) (k : zE X g l d bc bs y pc' ls ((32, 1, 1) :: st) μ Q) : zE X g l d bc bs y pc ls st μ Q := by
  obtain ⟨hd, rfl⟩ := hd
  intro p e R s m args below meth c H locs la cells slots hE hR hS hM hL hst
  have hK : zKn X s := hE.2.2.2.2.2.2.2.2.1
  refine va_gets hE.1 hE.2.1 hE.2.2.2.2.2.2.2.2.2.2.2.1.1 hS hE.2.2.2.2.1 (hK.word hl rfl rfl) (fun _ h => h) hd ?_
  exact k p e R s m args below meth c H locs la cells slots hE hR hS hM hL (zmk (zok_old (by omega) (by omega) (by omega)) hst)
theorem ztens_rng (j : Nat) : -2147483648 ≤ ztens j ∧ ztens j < 2147483648 := by
  unfold ztens
  match j with
  | 0 | 1 | 2 | 3 | 4 | 5 | 6 | 7 | 8 => decide
  | j + 9 => simp
theorem zthrees_rng (j : Nat) : -2147483648 ≤ zthrees j ∧ zthrees j < 2147483648 := by
  by_cases h : j < 32
  · have : ∀ j, j < 32 → -2147483648 ≤ zthrees j ∧ zthrees j < 2147483648 := by decide
    exact this j h
  · unfold zthrees
    rw [List.getD_eq_getElem?_getD, List.getElem?_eq_none (by simp; omega)]
    simp
theorem zE_tensAt {i : Int} (hd : zI y.2.1 pc .iaload 1 pc') (h : 0 ≤ i ∧ i < 9) (k : zE X g l d bc bs y pc' ls ((0, 0, ztens i.toNat) :: st) μ Q) : zE X g l d bc bs y pc ls ((0, 0, i) :: (32, 0, 0) :: st) μ Q := by
  obtain ⟨hd, rfl⟩ := hd
  intro p e R s m args below meth c H locs la cells slots hE hR hS hM hL hst
  obtain ⟨hin, hcl⟩ := z_in (L := 9) h.1 h.2 (by omega)
  refine va_ti (t := X.2.1 0) (i := Int32.ofInt i) hE.1 hE.2.1 hE.2.2.2.2.2.2.2.2.2.2.1.2 hS hin rfl hd ?_
  rw [hcl]
  exact k p e R s m args below meth c H locs la cells slots hE hR hS hM hL (zmk (zok_i (ztens_rng _).1 (ztens_rng _).2) (zcons (zcons hst).2).2)
theorem zE_threesAt {i : Int} (hd : zI y.2.1 pc .iaload 1 pc') (h : 0 ≤ i ∧ i < 32) (k : zE X g l d bc bs y pc' ls ((0, 0, zthrees i.toNat) :: st) μ Q) : zE X g l d bc bs y pc ls ((0, 0, i) :: (32, 1, 1) :: st) μ Q := by
  obtain ⟨hd, rfl⟩ := hd
  intro p e R s m args below meth c H locs la cells slots hE hR hS hM hL hst
  obtain ⟨hin, hcl⟩ := z_in (L := 32) h.1 h.2 (by omega)
  refine va_ti (t := X.2.1 1) (i := Int32.ofInt i) hE.1 hE.2.1 hE.2.2.2.2.2.2.2.2.2.2.2.1.2 hS hin rfl hd ?_
  rw [hcl]
  exact k p e R s m args below meth c H locs la cells slots hE hR hS hM hL (zmk (zok_i (zthrees_rng _).1 (zthrees_rng _).2) (zcons (zcons hst).2).2)
/-- the script: kind 34 -/
theorem zE_scr {i : Int} (hd : zI y.2.1 pc .iaload 1 pc') (hX : X.2.2.2.2.1 < 2147483648) (h : 0 ≤ i ∧ i < X.2.2.2.2.1) (k : zE X g l d bc bs y pc' ls ((0, 0, (X.2.2.2.2.2 i.toNat).toInt) :: st) μ Q) : zE X g l d bc bs y pc ls ((0, 0, i) :: (34, 0, 3) :: st) μ Q := by
  obtain ⟨hd, rfl⟩ := hd
  intro p e R s m args below meth c H locs la cells slots hE hR hS hM hL hst
  obtain ⟨hin, hcl⟩ := z_in (L := X.2.2.2.2.1) h.1 h.2 hX
  refine va_ti (t := X.2.1 3) (i := Int32.ofInt i) (v := .int (Int32.ofInt (X.2.2.2.2.2 i.toNat).toInt)) hE.1 hE.2.1 hE.2.2.2.2.2.2.2.2.2.2.2.2.2.2 hS hin (by rw [hcl, Int32.ofInt_toInt]) hd ?_
  exact k p e R s m args below meth c H locs la cells slots hE hR hS hM hL (zmk (zok_i' _) (zcons (zcons hst).2).2)
theorem zE_scrLen (hd : zI y.2.1 pc .arraylength 1 pc') (hX : X.2.2.2.2.1 < 2147483648) (k : zE X g l d bc bs y pc' ls ((0, 0, (X.2.2.2.2.1 : Int)) :: st) μ Q) : zE X g l d bc bs y pc ls ((34, 0, 3) :: st) μ Q := by
  obtain ⟨hd, rfl⟩ := hd
  intro p e R s m args below meth c H locs la cells slots hE hR hS hM hL hst
  refine va_tlen (t := X.2.1 3) hE.1 hE.2.1 hE.2.2.2.2.2.2.2.2.2.2.2.2.2.2 hS rfl hd ?_
  exact k p e R s m args below meth c H locs la cells slots hE hR hS hM hL (zmk (zok_i (by omega) (by omega)) (zcons hst).2)
/-! texts: kind 33; their bytes: kind 35 -/
theorem zrv_tx {j : Nat} : zrv X (33, j, 10 + (j : Int)) = .ref (X.2.1 (10 + j)) := by
  rw [show (10 : Int) + (j : Int) = ((10 + j : Nat) : Int) by omega]
  exact zrv_old (by omega) (by omega)
theorem zrv_by {j : Nat} : zrv X (35, j, 40 + (j : Int)) = .ref (X.2.1 (40 + j)) := by
  rw [show (40 : Int) + (j : Int) = ((40 + j : Nat) : Int) by omega]
  exact zrv_old (by omega) (by omega)
theorem zE_txval {n j : Nat} (hj : j < 18) (hd : zI y.2.1 pc (.getfield n) 3 pc') (hl : Cond.fieldLink y.1.cls n "java/lang/String" "value" "[B" ∈ lw_tbl) (k : zE X g l d bc bs y pc' ls ((35, j, 40 + (j : Int)) :: st) μ Q) : zE X g l d bc bs y pc ls ((33, j, 10 + (j : Int)) :: st) μ Q := by
  obtain ⟨hd, rfl⟩ := hd
  intro p e R s m args below meth c H locs la cells slots hE hR hS hM hL hst
  have hK : zKn X s := hE.2.2.2.2.2.2.2.2.1
  rw [List.map_cons, zrv_tx]
  refine vk_getf hE.1 hE.2.1 (hE.2.2.2.2.2.2.2.2.2.1.1 j hj).2.2.1 hS hE.2.2.2.2.1 (hK.word hl rfl rfl) (fun _ h => h) hd ?_
  have := k p e R s m args below meth c H locs la cells slots hE hR hS hM hL (zmk (zok_old (by omega) (by omega) (by omega)) (zcons hst).2)
  rw [List.map_cons, zrv_by] at this
  exact this
theorem zE_txcod {n j : Nat} (hj : j < 18) (hd : zI y.2.1 pc (.getfield n) 3 pc') (hl : Cond.fieldLink y.1.cls n "java/lang/String" "coder" "B" ∈ lw_tbl) (k : zE X g l d bc bs y pc' ls ((0, 0, 0) :: st) μ Q) : zE X g l d bc bs y pc ls ((33, j, 10 + (j : Int)) :: st) μ Q := by
  obtain ⟨hd, rfl⟩ := hd
  intro p e R s m args below meth c H locs la cells slots hE hR hS hM hL hst
  have hK : zKn X s := hE.2.2.2.2.2.2.2.2.1
  rw [List.map_cons, zrv_tx]
  refine vk_getf hE.1 hE.2.1 (hE.2.2.2.2.2.2.2.2.2.1.1 j hj).2.1 hS hE.2.2.2.2.1 (hK.word hl rfl rfl) (fun _ h => h) hd ?_
  exact k p e R s m args below meth c H locs la cells slots hE hR hS hM hL (zmk (zok_i (by omega) (by omega)) (zcons hst).2)
theorem zlen_lt : ∀ j, j < 18 → zlen.getD j 0 < 100 := by decide
theorem zE_bylen {j : Nat} (hj : j < 18) (hd : zI y.2.1 pc .arraylength 1 pc') (k : zE X g l d bc bs y pc' ls ((0, 0, (zlen.getD j 0 : Int)) :: st) μ Q) : zE X g l d bc bs y pc ls ((35, j, 40 + (j : Int)) :: st) μ Q := by
  obtain ⟨hd, rfl⟩ := hd
  intro p e R s m args below meth c H locs la cells slots hE hR hS hM hL hst
  rw [List.map_cons, zrv_by]
  refine va_tlen hE.1 hE.2.1 (hE.2.2.2.2.2.2.2.2.2.1.1 j hj).2.2.2 hS rfl hd ?_
  exact k p e R s m args below meth c H locs la cells slots hE hR hS hM hL (zmk (zok_i (by have := zlen_lt j hj; omega) (by have := zlen_lt j hj; omega)) (zcons hst).2)
theorem zE_byat {j : Nat} {i : Int} (hj : j < 18) (hd : zI y.2.1 pc .baload 1 pc') (h : 0 ≤ i ∧ i < (zlen.getD j 0 : Int)) (k : zE X g l d bc bs y pc' ls ((0, 0, ((zbyt.getD j []).getD i.toNat 0).toInt) :: st) μ Q) : zE X g l d bc bs y pc ls ((0, 0, i) :: (35, j, 40 + (j : Int)) :: st) μ Q := by
  obtain ⟨hd, rfl⟩ := hd
  intro p e R s m args below meth c H locs la cells slots hE hR hS hM hL hst
  obtain ⟨hin, hcl⟩ := z_in (L := zlen.getD j 0) h.1 h.2 (by have := zlen_lt j hj; omega)
  rw [List.map_cons, List.map_cons, zrv_by]
  refine va_tb (i := Int32.ofInt i) (v := .int (Int32.ofInt ((zbyt.getD j []).getD i.toNat 0).toInt)) hE.1 hE.2.1 (hE.2.2.2.2.2.2.2.2.2.1.1 j hj).2.2.2 hS hin (by rw [hcl, Int32.ofInt_toInt]) hd ?_
  exact k p e R s m args below meth c H locs la cells slots hE hR hS hM hL (zmk (zok_i' _) (zcons (zcons hst).2).2)
theorem zE_compact {n : Nat} (hd : zI y.2.1 pc (.getstatic n) 3 pc') (hl : Cond.fieldLink y.1.cls n "java/lang/String" "COMPACT_STRINGS" "Z" ∈ lw_tbl) (k : zE X g l d bc bs y pc' ls ((0, 0, 1) :: st) μ Q) : zE X g l d bc bs y pc ls st μ Q := by
  obtain ⟨hd, rfl⟩ := hd
  intro p e R s m args below meth c H locs la cells slots hE hR hS hM hL hst
  have hK : zKn X s := hE.2.2.2.2.2.2.2.2.1
  refine va_gets hE.1 hE.2.1 hE.2.2.2.2.2.2.2.2.2.2.2.2.1 hS hE.2.2.2.2.1 (hK.word hl rfl rfl) (fun _ h => h) hd ?_
  exact k p e R s m args below meth c H locs la cells slots hE hR hS hM hL (zmk (zok_i (by omega) (by omega)) hst)
/-- the formatter: kind 140, null or not -/
theorem zE_fmt {n : Nat} (hd : zI y.2.1 pc (.getstatic n) 3 pc') (hl : Cond.fieldLink y.1.cls n "jdk/internal/util/Preconditions" "SIOOBE_FORMATTER" "Ljava/util/function/BiFunction;" ∈ lw_tbl) (k : ∀ x : Int, zE X g l d bc bs y pc' ls ((140, 0, x) :: st) μ Q) : zE X g l d bc bs y pc ls st μ Q := by
  obtain ⟨hd, rfl⟩ := hd
  intro p e R s m args below meth c H locs la cells slots hE hR hS hM hL hst
  have hK : zKn X s := hE.2.2.2.2.2.2.2.2.1
  have hz : ∀ x : Int, zok μ (140, 0, x) := fun x => ⟨fun q => by simp at q, fun q => by simp at q, fun _ q => by simp at q, fun _ q => by simp at q, fun _ q => by simp at q⟩
  rcases hE.2.2.2.2.2.2.2.2.2.2.2.2.2.1 with h7 | h7
  · refine va_gets hE.1 hE.2.1 h7 hS hE.2.2.2.2.1 (hK.word hl rfl rfl) (fun _ h => h) hd ?_
    exact k (-1) p e R s m args below meth c H locs la cells slots hE hR hS hM hL (zmk (hz _) hst)
  · refine va_gets hE.1 hE.2.1 h7 hS hE.2.2.2.2.1 (hK.word hl rfl rfl) (fun _ h => h) hd ?_
    exact k 2 p e R s m args below meth c H locs la cells slots hE hR hS hM hL (zmk (hz _) hst)
/-- ifnonnull of what may be null -/
theorem zE_ifnonnull {t L : Nat} {a o : Int} {pt : Nat} (hd : zI y.2.1 pc (.ifnonnull o) 3 pc') (ht : (pc : Int) + o = (pt : Int)) (kt : 0 ≤ a → zE X g l d bc bs y pt ls st μ Q) (kf : a < 0 → zE X g l d bc bs y pc' ls st μ Q) : zE X g l d bc bs y pc ls ((100 + t, L, a) :: st) μ Q := by
  obtain ⟨hd, rfl⟩ := hd
  intro p e R s m args below meth c H locs la cells slots hE hR hS hM hL hst
  have e0 : zrv X (100 + t, L, a) = if a < 0 then Value.null else .ref (zad X (100 + t) a) := by
    rw [show 100 + t = (98 + t) + 2 by omega]
    rfl
  rw [List.map_cons, e0]
  by_cases h : a < 0
  · rw [if_pos h]
    exact lv_ifnonnullN hE.1 hE.2.1 hd (kf h p e R s m args below meth c H locs la cells slots hE hR hS hM hL (zcons hst).2)
  · rw [if_neg h]
    exact lv_ifnonnull hE.1 hE.2.1 hd ht (kt (by omega) p e R s m args below meth c H locs la cells slots hE hR hS hM hL (zcons hst).2)
theorem zE_null {t L : Nat} (hd : zI y.2.1 pc .aconst_null 1 pc') (k : zE X g l d bc bs y pc' ls ((100 + t, L, -1) :: st) μ Q) : zE X g l d bc bs y pc ls st μ Q := by
  obtain ⟨hd, rfl⟩ := hd
  intro p e R s m args below meth c H locs la cells slots hE hR hS hM hL hst
  have := k p e R s m args below meth c H locs la cells slots hE hR hS hM hL (zmk ⟨fun q => by simp at q, fun q => by simp at q; omega, fun _ q => by simp at q; omega, fun _ q => by simp at q; omega, fun _ _ q => by simp at q⟩ hst)
  have e0 : zrv X (100 + t, L, -1) = .null := by
    rw [show 100 + t = (98 + t) + 2 by omega]
    rfl
  rw [List.map_cons, e0] at this
  exact lv_null hE.1 hE.2.1 hd this
/-- a reference where one that may be null is wanted -/
theorem zE_some {t L : Nat} {a : Int} (k : zE X g l d bc bs y pc ls ((100 + t, L, a) :: st) μ Q) (ht : t < 30 := by decide) : zE X g l d bc bs y pc ls ((t + 2, L, a) :: st) μ Q := by
  intro p e R s m args below meth c H locs la cells slots hE hR hS hM hL hst
  have h0 := zok_pos (zcons hst).1 (by omega)
  have h1 := (zcons hst).1.2.2.2.1 (by simp) (by show t + 2 < 32; omega)
  have hk : zok μ (100 + t, L, a) := ⟨fun h => by simp at h, fun h => by simp at h; omega, fun _ h => by simp at h; omega, fun _ h => by simp at h; omega, fun _ _ _ => ⟨h1.1, by rw [h1.2.1]; simp, h1.2.2⟩⟩
  have e1 : zrv X (100 + t, L, a) = zrv X (t + 2, L, a) := by
    rw [zrv_ref h0, show 100 + t = (98 + t) + 2 by omega, zrv_ref h0]
    simp [zad, show t + 2 < 32 by omega, show 98 + t + 2 < 132 by omega]
  have := k p e R s m args below meth c H locs la cells slots hE hR hS hM hL (zmk hk (zcons hst).2)
  rw [List.map_cons] at this ⊢
  rw [← e1]
  exact this
end

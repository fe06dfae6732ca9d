/-! the beginning: what the tables and the start say -/
def zcnd : List Cond := flatC (Jvm.Cond.and given_1 narrow_1)
def zsb (i : Nat) : Nat := [56, 62, 270, 335, 312, 290, 71, 81, 93, 106, 119, 134, 152, 170, 187, 207, 227, 248].getD i 0
def znt (i j : Nat) : Nat := ([[0, 70, 276, 341, 319, 297, 79, 90, 102, 114, 128, 145, 162, 178, 197, 216, 236, 257], [0, 0, 277, 342, 320, 298, 80, 91, 103, 115, 129, 146, 163, 179, 198, 217, 237, 258], [0, 0, 0, 355, 333, 311, 278, 279, 280, 281, 282, 283, 284, 285, 286, 287, 288, 289], [0, 0, 0, 0, 357, 356, 343, 344, 345, 346, 347, 348, 349, 350, 351, 352, 353, 354], [0, 0, 0, 0, 0, 334, 321, 322, 323, 324, 325, 326, 327, 328, 329, 330, 331, 332], [0, 0, 0, 0, 0, 0, 299, 300, 301, 302, 303, 304, 305, 306, 307, 308, 309, 310], [0, 0, 0, 0, 0, 0, 0, 92, 104, 116, 130, 147, 164, 180, 199, 218, 238, 259], [0, 0, 0, 0, 0, 0, 0, 0, 105, 117, 131, 148, 165, 181, 200, 219, 239, 260], [0, 0, 0, 0, 0, 0, 0, 0, 0, 118, 132, 149, 166, 182, 201, 220, 240, 261], [0, 0, 0, 0, 0, 0, 0, 0, 0, 0, 133, 150, 167, 183, 202, 221, 241, 262], [0, 0, 0, 0, 0, 0, 0, 0, 0, 0, 0, 151, 168, 184, 203, 222, 242, 263], [0, 0, 0, 0, 0, 0, 0, 0, 0, 0, 0, 0, 169, 185, 204, 223, 243, 264], [0, 0, 0, 0, 0, 0, 0, 0, 0, 0, 0, 0, 0, 186, 205, 224, 244, 265], [0, 0, 0, 0, 0, 0, 0, 0, 0, 0, 0, 0, 0, 0, 206, 225, 245, 266], [0, 0, 0, 0, 0, 0, 0, 0, 0, 0, 0, 0, 0, 0, 0, 226, 246, 267], [0, 0, 0, 0, 0, 0, 0, 0, 0, 0, 0, 0, 0, 0, 0, 0, 247, 268], [0, 0, 0, 0, 0, 0, 0, 0, 0, 0, 0, 0, 0, 0, 0, 0, 0, 269], [0, 0, 0, 0, 0, 0, 0, 0, 0, 0, 0, 0, 0, 0, 0, 0, 0, 0]].getD i []).getD j 0
def ztm (i : Nat) : Term := .string "SmokeRoom$Reader" (zsi i)
theorem zcnd_exa : ∀ i, i < 18 → zcnd[zsb i]? = some (.exactly (ztm i) "java/lang/String") := by decide +kernel
theorem zcnd_cod : ∀ i, i < 18 → zcnd[zsb i + 1]? = some (.eq (.field (ztm i) "java/lang/String" "coder" "B") (.int 0)) := by decide +kernel
theorem zcnd_arr : ∀ i, i < 18 → zcnd[zsb i + 2]? = some (.arrayOf (.field (ztm i) "java/lang/String" "value" "[B") .byte) := by decide +kernel
theorem zcnd_len : ∀ i, i < 18 → zcnd[zsb i + 3]? = some (.eq (.length (.field (ztm i) "java/lang/String" "value" "[B")) (.int (Int32.ofNat (zlen.getD i 0)))) := by decide +kernel
theorem zcnd_ele : ∀ i, i < 18 → ∀ j, j < zlen.getD i 0 → zcnd[zsb i + 4 + j]? = some (.eq (.elem (.field (ztm i) "java/lang/String" "value" "[B") (.int (Int32.ofNat j))) (.int ((zbyt.getD i []).getD j 0))) := by decide +kernel
theorem zcnd_not : ∀ i, i < 18 → ∀ j, j < 18 → i < j → zcnd[znt i j]? = some (.not (.eq (ztm i) (ztm j))) ∨ zcnd[znt i j]? = some (.not (.eq (ztm j) (ztm i))) := by decide +kernel
theorem zcnd_thr : ∀ j, j < 32 → zcnd[12 + j]? = some (.eq (.elem (.static "SmokeRoom$Reckoner" "THREES" "[I") (.int (Int32.ofNat j))) (.int (Int32.ofInt (zthrees j)))) := by decide +kernel
theorem zcnd_ten : ∀ j, j < 9 → zcnd[47 + j]? = some (.eq (.elem (.static "SmokeRoom$Big" "TENS" "[I") (.int (Int32.ofNat j))) (.int (Int32.ofInt (ztens j)))) := by decide +kernel
theorem zin_str : ∀ j, j < 18 → Cond.stringRef "SmokeRoom$Reader" (zsi j) (ztx j) ∈ lw_tbl
  | 0, _ => zs3 87 rfl
  | 1, _ => zs3 140 rfl
  | 2, _ => zs3 185 rfl
  | 3, _ => zs3 208 rfl
  | 4, _ => zs3 203 rfl
  | 5, _ => zs3 198 rfl
  | 6, _ => zs3 169 rfl
  | 7, _ => zs3 170 rfl
  | 8, _ => zs3 171 rfl
  | 9, _ => zs3 172 rfl
  | 10, _ => zs3 173 rfl
  | 11, _ => zs3 174 rfl
  | 12, _ => zs3 175 rfl
  | 13, _ => zs3 176 rfl
  | 14, _ => zs3 177 rfl
  | 15, _ => zs3 178 rfl
  | 16, _ => zs3 179 rfl
  | 17, _ => zs3 180 rfl
  | j + 18, h => absurd h (by omega)
theorem zin_ins : ∀ t, t < 12 → Cond.instantiable (zC t) (zN t) ∈ lw_tbl
  | 0, _ => zs2 82 rfl
  | 1, _ => zs1 114 rfl
  | 2, _ => zs1 73 rfl
  | 3, _ => zs1 225 rfl
  | 4, _ => zs2 37 rfl
  | 5, _ => zs1 29 rfl
  | 6, _ => zs1 41 rfl
  | 7, _ => zs2 31 rfl
  | 8, _ => zs2 43 rfl
  | 9, _ => zs2 16 rfl
  | 10, _ => zs1 21 rfl
  | 11, _ => zs5 153 rfl
  | t + 12, h => absurd h (by omega)
section
variable {s : State} {b L : Nat} {xs : Nat → Int32}
theorem zb_arr (hts : ∀ w ∈ lw_tbl, w.before #[Value.ref b] s = true) : ∀ t : Nat, ∃ cA : ClassId, t < 26 → ArrOfT s cA (zay t) ∧ va_RA s cA (zay t) := by
  have prim : ∀ ty : FieldType, (ty = .int ∨ ty = .long ∨ ty = .boolean) → Cond.arrayClass ty ∈ lw_tbl → ∃ cA : ClassId, ArrOfT s cA ty ∧ va_RA s cA ty := fun ty hty hw => by
    obtain ⟨c, k, comp, h1, h2, h3⟩ := Cond.arrayClass_spec (hts _ hw)
    refine ⟨c, fun n z => ⟨fun k h => (by cases h), k, h2, comp, h3⟩, ?_⟩
    rcases hty with rfl | rfl | rfl <;> exact h1
  have obj : ∀ C : String, Cond.arrayOver (.object C) ∈ lw_tbl → ∃ cA : ClassId, ArrOfT s cA (.object C) ∧ va_RA s cA (.object C) := fun C hw => by
    obtain ⟨comp, c, k, h1, h2, h3, h4, h5⟩ := Cond.arrayOver_spec (hts _ hw)
    exact ⟨c, fun n z => ⟨fun k h => (by cases h), k, h3, comp, h4⟩, k, comp, h3, h4, h1, h5⟩
  have arr : ∃ cA : ClassId, ArrOfT s cA (.array .int) ∧ va_RA s cA (.array .int) := by
    obtain ⟨comp, c, k, h1, h2, h3, h4, h5⟩ := arrayOverA_spec (hts _ (zs1 37 rfl : Cond.arrayOver (.array .int) ∈ lw_tbl))
    exact ⟨c, fun n z => ⟨fun k h => (by cases h), k, h3, comp, h4⟩, h5⟩
  have hI := prim .int (Or.inl rfl) (zs1 72 rfl)
  have hJ := prim .long (Or.inr (Or.inl rfl)) (zs2 79 rfl)
  have hZ := prim .boolean (Or.inr (Or.inr rfl)) (zs1 157 rfl)
  have hP := obj "SmokeRoom$Plan" (zs1 35 rfl)
  have hW := obj "SmokeRoom$Law" (zs1 39 rfl)
  have hR := obj "SmokeRoom$Room" (zs1 223 rfl)
  have hB := obj "SmokeRoom$Big" (zs2 81 rfl)
  intro t
  have : ∃ cA : ClassId, ArrOfT s cA (zay t) ∧ va_RA s cA (zay t) := by
    unfold zay
    split
    all_goals first | exact hI | exact hJ | exact hZ | exact hP | exact hW | exact arr | exact hR | exact hB
  obtain ⟨cA, h⟩ := this
  exact ⟨cA, fun _ => h⟩
theorem zbegin (hts : ∀ w ∈ lw_tbl, w.before #[Value.ref b] s = true) (hX : va_X b L xs s s.heap) (hb : b < s.heap.size) (hg : (Jvm.Cond.and given_1 narrow_1).before #[Value.ref b] s = true) : ∃ X : zX, X.1 = s.heap.size ∧ X.2.1 3 = b ∧ X.2.2.2.2.1 = L ∧ zKn X s ∧ zOl X s s.heap := by
  have hc : ∀ (k : Nat) (w : Cond), zcnd[k]? = some w → w.before #[Value.ref b] s = true := fun k w e => flat_of_before _ hg w (List.mem_of_getElem? e)
  have hA : ∀ a : Nat, a < s.heap.size → ¬ s.heap.size ≤ a := fun a h => by omega
  -- classes
  have kn : ∀ t : Nat, ∃ q : ClassId × (Nat → Nat), t < 12 → u_Kn s (zC t) (zT t) (zN t) q.1 q.2 := fun t => by
    by_cases ht : t < 12
    · obtain ⟨cC, iS, h⟩ := u_known (T := zT t) hts (zT_w t ht) (hts _ (zin_ins t ht))
      exact ⟨(cC, iS), fun _ => h⟩
    · exact ⟨(0, fun _ => 0), fun h => absurd h ht⟩
  have ar := zb_arr hts
  -- texts
  obtain ⟨adK, adV, hS, hE⟩ := vk_Sof (args := #[Value.ref b]) (s := s) (N := 18) (tm := ztm) (len := zlen) (byt := zbyt) (A := fun q => s.heap.size ≤ q) (by decide) (fun i hi => hc _ _ (zcnd_exa i hi)) (fun i hi => hc _ _ (zcnd_cod i hi)) (fun i hi => hc _ _ (zcnd_arr i hi)) (fun i hi => hc _ _ (zcnd_len i hi)) (fun i hi j hj => hc _ _ (zcnd_ele i hi j hj)) (fun i j hi hj hij => by
    rcases Nat.lt_or_gt_of_ne hij with h | h
    · rcases zcnd_not i hi j hj h with q | q
      · exact Or.inl (hc _ _ q)
      · exact Or.inr (hc _ _ q)
    · rcases zcnd_not j hj i hi h with q | q
      · exact Or.inr (hc _ _ q)
      · exact Or.inl (hc _ _ q)) hA
  -- tables
  obtain ⟨t0, e0, T0⟩ := va_Tof (args := #[Value.ref b]) (s := s) (tm := .static "SmokeRoom$Big" "TENS" "[I") (ty := .int) (N := 9) (f := fun j => .int (Int32.ofInt (ztens j))) (A := fun q => s.heap.size ≤ q) (by decide) (hc 45 _ rfl) (va_eqt (hc 46 _ rfl)) (fun j hj => va_eqt (hc _ _ (zcnd_ten j hj))) hA
  obtain ⟨t1, e1, T1⟩ := va_Tof (args := #[Value.ref b]) (s := s) (tm := .static "SmokeRoom$Reckoner" "THREES" "[I") (ty := .int) (N := 32) (f := fun j => .int (Int32.ofInt (zthrees j))) (A := fun q => s.heap.size ≤ q) (by decide) (hc 10 _ rfl) (va_eqt (hc 11 _ rfl)) (fun j hj => va_eqt (hc _ _ (zcnd_thr j hj))) hA
  have Z0 := va_Zof (A := fun q => s.heap.size ≤ q) (hts _ (zs4 128 rfl : Cond.laysStatic "SmokeRoom$Big" "TENS" "[I" ∈ lw_tbl)) (hts _ li_Big) e0 hA
  have Z1 := va_Zof (A := fun q => s.heap.size ≤ q) (hts _ (zs4 101 rfl : Cond.laysStatic "SmokeRoom$Reckoner" "THREES" "[I" ∈ lw_tbl)) (hts _ li_Reckoner) e1 hA
  have ZC := va_Zof (A := fun q => s.heap.size ≤ q) (hts _ (zs3 101 rfl : Cond.laysStatic "java/lang/String" "COMPACT_STRINGS" "Z" ∈ lw_tbl)) (hts _ (zs1 15 rfl : Cond.initialized "java/lang/String" ∈ lw_tbl)) (va_eqt (hc 4 _ rfl)) hA
  have ZF := va_Zqof (A := fun q => s.heap.size ≤ q) (hts _ (zs3 117 rfl : Cond.laysStatic "jdk/internal/util/Preconditions" "SIOOBE_FORMATTER" "Ljava/util/function/BiFunction;" ∈ lw_tbl)) (hts _ (zs1 17 rfl : Cond.initialized "jdk/internal/util/Preconditions" ∈ lw_tbl)) (hc 5 _ rfl) hA
  obtain ⟨t2, ZF⟩ : ∃ t2 : Nat, va_Z "jdk/internal/util/Preconditions" "SIOOBE_FORMATTER" "Ljava/util/function/BiFunction;" .null (fun q => s.heap.size ≤ q) s s.heap ∨ va_Z "jdk/internal/util/Preconditions" "SIOOBE_FORMATTER" "Ljava/util/function/BiFunction;" (.ref t2) (fun q => s.heap.size ≤ q) s s.heap := by
    rcases ZF with h | ⟨t, h⟩
    · exact ⟨0, Or.inl h⟩
    · exact ⟨t, Or.inr h⟩
  have ad : ∀ j : Nat, j < 18 → (fun k : Nat => if k = 0 then t0 else if k = 1 then t1 else if k = 2 then t2 else if k = 3 then b else if k < 40 then adK (k - 10) else adV (k - 40)) (10 + j) = adK j ∧ (fun k : Nat => if k = 0 then t0 else if k = 1 then t1 else if k = 2 then t2 else if k = 3 then b else if k < 40 then adK (k - 10) else adV (k - 40)) (40 + j) = adV j := fun j hj => by
    constructor
    · show (if 10 + j = 0 then t0 else if 10 + j = 1 then t1 else if 10 + j = 2 then t2 else if 10 + j = 3 then b else if 10 + j < 40 then adK (10 + j - 10) else adV (10 + j - 40)) = adK j
      rw [if_neg (by omega), if_neg (by omega), if_neg (by omega), if_neg (by omega), if_pos (by omega), show 10 + j - 10 = j by omega]
    · show (if 40 + j = 0 then t0 else if 40 + j = 1 then t1 else if 40 + j = 2 then t2 else if 40 + j = 3 then b else if 40 + j < 40 then adK (40 + j - 10) else adV (40 + j - 40)) = adV j
      rw [if_neg (by omega), if_neg (by omega), if_neg (by omega), if_neg (by omega), if_neg (by omega), show 40 + j - 40 = j by omega]
  refine ⟨(s.heap.size, (fun k : Nat => if k = 0 then t0 else if k = 1 then t1 else if k = 2 then t2 else if k = 3 then b else if k < 40 then adK (k - 10) else adV (k - 40)), ((fun t => (Classical.choose (kn t)).1), (fun t => (Classical.choose (kn t)).2)), (fun t => Classical.choose (ar t)), L, xs), rfl, rfl, rfl, ⟨fun w hw hz => ?_, ⟨fun c q hq => ?_, fun k q hq => ?_⟩, fun C hC => ?_, hts _ (zs1 37 rfl : Cond.arrayOver (.array .int) ∈ lw_tbl), fun j hj => ?_⟩, ⟨fun i hi => ?_, fun i j hi hj e => ?_⟩, ⟨Z0, T0⟩, ⟨Z1, T1⟩, ZC, ZF, ?_⟩
  · unfold zgd at hz
    split at hz
    · exact hts _ hw
    · rw [Bool.and_eq_true] at hz
      exact va_Nw.of hz.1 (hts _ hw)
  · have hc12 : c < 12 := (List.getElem?_eq_some_iff.mp hq).1
    rw [zcl_at c hc12] at hq
    cases hq
    exact Classical.choose_spec (kn c) hc12
  · have hk : k < 26 := by
      have := (List.getElem?_eq_some_iff.mp hq).1
      unfold ztys at this
      rw [List.length_map, List.length_range] at this
      exact this
    rw [ztys_at _ hk] at hq
    cases hq
    exact Classical.choose_spec (ar k) hk
  · rcases hC with rfl | rfl | rfl | rfl
    · exact hts _ (zs1 35 rfl : Cond.arrayOver (.object "SmokeRoom$Plan") ∈ lw_tbl)
    · exact hts _ (zs1 39 rfl : Cond.arrayOver (.object "SmokeRoom$Law") ∈ lw_tbl)
    · exact hts _ (zs1 223 rfl : Cond.arrayOver (.object "SmokeRoom$Room") ∈ lw_tbl)
    · exact hts _ (zs2 81 rfl : Cond.arrayOver (.object "SmokeRoom$Big") ∈ lw_tbl)
  · have := hE j hj
    rw [← (ad j hj).1] at this
    exact vk_R.of (hts _ (zin_str j hj)) this
  · have := hS.1 i hi
    rw [← (ad i hi).1, ← (ad i hi).2] at this
    exact this
  · refine hS.2 i j hi hj ?_
    rw [← (ad i hi).1, ← (ad j hj).1]
    exact e
  · obtain ⟨scr, h1, h2, h3, h4, h5⟩ := hX
    exact ⟨scr, h1, h2, h3, Nat.le_of_eq h4.symm, by rw [h4]; try rfl, h5, fun z => hA b hb z⟩
end

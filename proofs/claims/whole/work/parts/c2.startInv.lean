/-! the memory after both constructors: the relation holds -/
theorem zfla_get {G : Nat → zCs} {k : Nat} (h : ∀ s, (G s).length = k) : ∀ N s r : Nat, s < N → r < k → (zfla G N)[k * s + r]? = (G s)[r]?
  | 0, s, r, hs, _ => absurd hs (by omega)
  | N + 1, s, r, hs, hr => by
    rw [zfla_succ]
    by_cases e : s = N
    · subst e
      rw [List.getElem?_append_right (by rw [zfla_len h]; omega), zfla_len h, show k * s + r - k * s = r by omega]
    · have hlt : k * s + r < k * N := by
        have : k * (s + 1) ≤ k * N := Nat.mul_le_mul_left k (by omega)
        rw [Nat.mul_succ] at this
        omega
      rw [List.getElem?_append_left (by rw [zfla_len h]; exact hlt)]
      exact zfla_get h N s r (by omega) hr
theorem zc_S_len : (zc_S 0).length = 1320 := by
  unfold zc_S
  rw [← List.append_assoc, List.length_append, zbm_S_len, List.length_append, zc_Scales_len, zfla_len (k := 86) (fun _ => zc_Room_len _)]
/-- the parts of the list -/
theorem zcA_S {r : Nat} (h : r < 1320) : zcA[r]? = (zc_S 0)[r]? := by
  unfold zcA
  rw [List.getElem?_append_left (by rw [zc_S_len]; exact h)]
theorem zcA_M {r : Nat} : zcA[1320 + r]? = (zc_M 1320)[r]? := by
  unfold zcA
  rw [List.getElem?_append_right (by rw [zc_S_len]; omega), zc_S_len, show 1320 + r - 1320 = r by omega]
theorem zcS_room {r : Nat} (h : r < 86) : (zc_S 0)[1 + r]? = (zc_Room 1)[r]? := by
  unfold zc_S
  rw [List.getElem?_append_left (by rw [zb_S_len]; omega)]
  show ((10, 0, zg_S 0) :: zc_Room 1)[1 + r]? = _
  rw [Nat.add_comm 1 r, List.getElem?_cons_succ]
theorem zcS_mid {r : Nat} (h : r < 17) : (zc_S 0)[87 + r]? = (zm_S 0 (zar (0 + 1148) 86 2) (zfs9 (zdf 12 5) ((5 : Nat) : Int) (-1)))[r]? := by
  unfold zc_S
  rw [List.getElem?_append_right (by rw [zb_S_len]; omega), zb_S_len, show 87 + r - 87 = r by omega, List.getElem?_append_left h]
theorem zcS_sc {r : Nat} (h : r < 1044) : (zc_S 0)[104 + r]? = (zc_Scales 104)[r]? := by
  unfold zc_S
  rw [← List.append_assoc, List.getElem?_append_right (by rw [zbm_S_len]; omega), zbm_S_len, show 104 + r - 104 = r by omega, List.getElem?_append_left (by rw [zc_Scales_len]; exact h)]
theorem zcS_im {k r : Nat} (h : k < 2) (h2 : r < 86) : (zc_S 0)[1148 + 86 * k + r]? = (zc_Room (1148 + 86 * k))[r]? := by
  unfold zc_S
  rw [← List.append_assoc, List.getElem?_append_right (by rw [zbm_S_len]; omega), zbm_S_len, List.getElem?_append_right (by rw [zc_Scales_len]; omega), zc_Scales_len, show 1148 + 86 * k + r - 104 - 1044 = 86 * k + r by omega, zfla_get (fun _ => zc_Room_len _) 2 k r h h2, Nat.zero_add]
theorem zcSc_re {r : Nat} (h : r < 1001) : (zc_Scales 104)[1 + r]? = (zc_Reckoner 105)[r]? := by
  unfold zc_Scales
  rw [List.getElem?_append_left (by rw [zb_Scales_len]; omega)]
  unfold zb_Scales
  rw [Nat.add_comm 1 r, List.getElem?_cons_succ]
theorem zcSc_q {r : Nat} (h : r < 10) : (zc_Scales 104)[1002 + r]? = (zq_Scales 104 (zar (104 + 1012) 8 4) (zar (104 + 1014) 8 4) (zar (104 + 1016) 8 4) (zar (104 + 1018) 8 4))[r]? := by
  unfold zc_Scales
  rw [List.getElem?_append_right (by rw [zb_Scales_len]; omega), zb_Scales_len, show 1002 + r - 1002 = r by omega, List.getElem?_append_left h]
theorem zcSc_l {s r : Nat} (h : s < 4) (h2 : r < 8) : (zc_Scales 104)[1012 + (8 * s + r)]? = (zc_Big 170 (104 + (1012 + 8 * s)) ++ (zc_Big 170 (104 + (1012 + 8 * s + 2)) ++ (zc_Big 15 (104 + (1012 + 8 * s + 4)) ++ zc_Big 15 (104 + (1012 + 8 * s + 6)))))[r]? := by
  unfold zc_Scales
  rw [← List.append_assoc, List.getElem?_append_right (by rw [List.length_append, zb_Scales_len]; show 1002 + 10 ≤ _; omega), List.length_append, zb_Scales_len]
  show (zfla _ 4)[1012 + (8 * s + r) - (1002 + 10)]? = _
  rw [show 1012 + (8 * s + r) - (1002 + 10) = 8 * s + r by omega, zfla_get (k := 8) (fun _ => rfl) 4 s r h h2]
theorem zcRe_p {r : Nat} (h : r < 29) : (zc_Reckoner 105)[r]? = (zp_Reckoner 105 (zar (105 + 29) 4 243) (zar (105 + 31) 4 243))[r]? := by
  unfold zc_Reckoner
  rw [List.getElem?_append_left h]
theorem zcRe_l {s r : Nat} (h : s < 243) (h2 : r < 4) : (zc_Reckoner 105)[29 + (4 * s + r)]? = (zc_Big 15 (105 + (29 + 4 * s)) ++ zc_Big 15 (105 + (29 + 4 * s + 2)))[r]? := by
  unfold zc_Reckoner
  rw [List.getElem?_append_right (by show 29 ≤ _; omega)]
  show (zfla _ 243)[29 + (4 * s + r) - 29]? = _
  rw [show 29 + (4 * s + r) - 29 = 4 * s + r by omega, zfla_get (k := 4) (fun _ => rfl) 243 s r h h2]
theorem zBig_of {ν : zM} {a : Int} {n : Nat} {f : Int → Int} (h0 : ν a = f) (h1 : ν (a + 1) = zdf 12 n) (f0 : f 0 = n) (f2 : f 2 = 0) : zBig ν a n := by
  have z : ∀ i : Int, zdf 12 n i = 0 := fun i => rfl
  refine ⟨by rw [h0]; exact f0, by rw [h0, f2]; omega, by rw [h0, f2]; omega, fun i i0 i1 => ?_, fun q => by rw [h0, f2] at q; omega⟩
  rw [h1, z]
  exact ⟨by omega, by omega, fun _ => rfl⟩
/-- the row of the reference, and the room -/
theorem zr_M_eq (j : Int) : zr_M j = if 212 ≤ j ∧ j < 216 then 1 else if 200 ≤ j ∧ j < 212 then (if 99 ≤ 10 * (j - 200) + 10 then 99 else 10 * (j - 200) + 10) else if 160 ≤ j ∧ j < 190 then -1 else if 100 ≤ j ∧ j < 160 then 31 else if j = 2 then 6 else if j = 1 then -1 else 0 := rfl
def zrmOk : Bool := (List.range 480).all (fun i => if (zla i).1 < 58 ∧ ¬ (212 ≤ i ∧ i < 232) ∧ ¬ (240 ≤ i) then (match (zc_Room 1)[(zla i).1]? with | none => false | some x => x.2.2 ((zla i).2 : Int) == zr_M (i : Int)) else true)
theorem zrmOk_t : zrmOk = true := by decide +kernel
theorem zrm_RB : zRB zr_M := by
  have e : ∀ j : Int, zr_M j = if 212 ≤ j ∧ j < 216 then 1 else if 200 ≤ j ∧ j < 212 then (if 99 ≤ 10 * (j - 200) + 10 then 99 else 10 * (j - 200) + 10) else if 160 ≤ j ∧ j < 190 then -1 else if 100 ≤ j ∧ j < 160 then 31 else if j = 2 then 6 else if j = 1 then -1 else 0 := zr_M_eq
  have e0 : zr_M 0 = 0 := rfl
  have e1 : zr_M 1 = -1 := rfl
  have e2 : zr_M 2 = 6 := rfl
  have e3 : zr_M 3 = 0 := rfl
  have e4 : zr_M 4 = 0 := rfl
  have e5 : zr_M 5 = 0 := rfl
  have e6 : zr_M 6 = 0 := rfl
  have low : ∀ i : Int, 3 ≤ i → i < 100 → zr_M i = 0 := fun i a b => by
    rw [e, if_neg (by omega), if_neg (by omega), if_neg (by omega), if_neg (by omega), if_neg (by omega), if_neg (by omega)]
  refine ⟨by rw [e0]; omega, by rw [e1, e3]; omega, by rw [e2]; omega, by rw [e3]; omega, by rw [e4]; omega, by rw [e5]; omega, by rw [e6]; omega, fun i a b => by rw [low i (by omega) (by omega)]; omega, fun i a b => by rw [low i (by omega) (by omega)]; omega, fun i a b => ?_, fun i a b => ?_, fun i a b => ?_, fun i a b => ?_, fun i a b => ?_, fun i a b => ?_, fun i a b => ?_, fun i a b => ?_, fun i a b => ?_⟩
  · rw [low i (by omega) (by omega)]
    refine ⟨by omega, ?_⟩
    split <;> omega
  · rw [e, if_neg (by omega), if_neg (by omega), if_neg (by omega), if_pos (by omega)]; omega
  · rw [e, if_neg (by omega), if_neg (by omega), if_pos (by omega)]; omega
  · rw [e, if_neg (by omega), if_neg (by omega), if_neg (by omega), if_neg (by omega), if_neg (by omega), if_neg (by omega)]; omega
  · rw [e, if_neg (by omega), if_pos (by omega)]
    split <;> omega
  · rw [e, if_pos (by omega)]; exact ⟨by omega, by omega, fun _ => rfl⟩
  · rw [e4] at b; omega
  · rw [e5] at b; omega
  · rw [e6] at b; omega
section
variable {μ0 ν : zM}
theorem zcA_cell (D : zDe μ0 ν 0 1348 zcA) {r : Nat} {x : Nat × Nat × (Int → Int)} (h : zcA[r]? = some x) : ν (r : Int) = x.2.2 := by
  have := (D.2.2.2 r x h).1
  rw [Nat.zero_add] at this
  exact this
theorem zcA_inv (D : zDe μ0 ν 0 1348 zcA) : zInv zLR ν := by
  have mS : ∀ (r : Nat) (x : Nat × Nat × (Int → Int)), r < 1320 → (zc_S 0)[r]? = some x → ν (r : Int) = x.2.2 := fun r x h e => zcA_cell D (by rw [zcA_S h]; exact e)
  have mM : ∀ (r : Nat) (x : Nat × Nat × (Int → Int)), (zc_M 1320)[r]? = some x → ν ((1320 + r : Nat) : Int) = x.2.2 := fun r x e => zcA_cell D (by rw [zcA_M]; exact e)
  have mR : ∀ (r : Nat) (x : Nat × Nat × (Int → Int)), r < 86 → (zc_Room 1)[r]? = some x → ν ((1 + r : Nat) : Int) = x.2.2 := fun r x h e => mS (1 + r) x (by omega) (by rw [zcS_room h]; exact e)
  have mm : ∀ (r : Nat) (x : Nat × Nat × (Int → Int)), r < 17 → (zm_S 0 (zar (0 + 1148) 86 2) (zfs9 (zdf 12 5) ((5 : Nat) : Int) (-1)))[r]? = some x → ν ((87 + r : Nat) : Int) = x.2.2 := fun r x h e => mS (87 + r) x (by omega) (by rw [zcS_mid h]; exact e)
  have mC : ∀ (r : Nat) (x : Nat × Nat × (Int → Int)), r < 1044 → (zc_Scales 104)[r]? = some x → ν ((104 + r : Nat) : Int) = x.2.2 := fun r x h e => mS (104 + r) x (by omega) (by rw [zcS_sc h]; exact e)
  have mE : ∀ (r : Nat) (x : Nat × Nat × (Int → Int)), r < 1001 → (zc_Reckoner 105)[r]? = some x → ν ((104 + (1 + r) : Nat) : Int) = x.2.2 := fun r x h e => mC (1 + r) x (by omega) (by rw [zcSc_re h]; exact e)
  have mI : ∀ (k r : Nat) (x : Nat × Nat × (Int → Int)), k < 2 → r < 86 → (zc_Room (1148 + 86 * k))[r]? = some x → ν ((1148 + 86 * k + r : Nat) : Int) = x.2.2 := fun k r x h h2 e => mS _ x (by omega) (by rw [zcS_im h h2]; exact e)
  have c0 : ν 0 = zg_S 0 := mS 0 (10, 0, zg_S 0) (by omega) rfl
  have c1320 := mM 0 _ rfl
  have c1321 := mM 1 _ rfl
  have c1322 := mM 2 _ rfl
  have c1324 := mM 4 _ rfl
  have c1325 := mM 5 _ rfl
  have c88 := mm 1 _ (by omega) rfl
  have c89 := mm 2 _ (by omega) rfl
  have c100 := mm 13 _ (by omega) rfl
  have c103 := mm 16 _ (by omega) rfl
  have c11 := mR 10 _ (by omega) rfl
  have c15 := mR 14 _ (by omega) rfl
  have c19 := mR 18 _ (by omega) rfl
  have row : ν 1322 = zr_M := c1322
  have bigE : ∀ r n b : Nat, r + 1 < 1001 → (zc_Reckoner 105)[r]? = some (0, n, zsu (zsu (zsu (zdf 0 n) 2 0) 0 (n : Int)) 1 ((b + 1 : Nat) : Int)) → (zc_Reckoner 105)[r + 1]? = some (12, n, zdf 12 n) → zBig ν ((105 + r : Nat) : Int) n := fun r n b hr h1 h2 => by
    have k1 := mE r _ (by omega) h1
    have k2 := mE (r + 1) _ (by omega) h2
    rw [show ((104 + (1 + r) : Nat) : Int) = ((105 + r : Nat) : Int) by omega] at k1
    rw [show ((104 + (1 + (r + 1)) : Nat) : Int) = ((105 + r : Nat) : Int) + 1 by omega] at k2
    exact zBig_of k1 k2 rfl rfl
  have bigC : ∀ r n b : Nat, r + 1 < 1044 → (zc_Scales 104)[r]? = some (0, n, zsu (zsu (zsu (zdf 0 n) 2 0) 0 (n : Int)) 1 ((b + 1 : Nat) : Int)) → (zc_Scales 104)[r + 1]? = some (12, n, zdf 12 n) → zBig ν ((104 + r : Nat) : Int) n := fun r n b hr h1 h2 => by
    have k1 := mC r _ (by omega) h1
    have k2 := mC (r + 1) _ (by omega) h2
    rw [show ((104 + (r + 1) : Nat) : Int) = ((104 + r : Nat) : Int) + 1 by omega] at k2
    exact zBig_of k1 k2 rfl rfl
  refine ⟨⟨?_, ?_, ?_⟩, fun i i0 i1 => ?_, ?_, ?_, ⟨?_, ?_, ?_, ?_⟩, ⟨fun i hv hu => ?_, ?_, fun n n0 n1 => ?_, ?_, ?_, ?_⟩, fun k hk => ?_, fun p p0 p1 => ?_, ⟨⟨fun s s0 s1 => ?_, ⟨?_, ?_, ?_, ?_, ?_⟩, fun n n0 n1 => ?_, ?_, ?_, ?_⟩, fun k hk => ?_⟩⟩
  · exact (congrFun c0 4).trans (congrFun c1320 7).symm
  · have : ν 0 4 = 0 := congrFun c0 4
    omega
  · have : ν 0 4 = 0 := congrFun c0 4
    omega
  · have h89 : ν 89 i = 0 := congrFun c89 i
    have h25 : ν 1325 i = 0 := congrFun c1325 i
    rw [h89, h25]; omega
  · exact (congrFun c0 6).trans (congrFun c1320 12).symm
  · exact (congrFun c0 10).trans (congrFun c1320 1).symm
  · exact (congrFun c103 0).trans (congrFun c1321 1).symm
  · exact (congrFun c103 1).trans (congrFun c1321 2).symm
  · exact (congrFun c103 2).trans (congrFun c1321 5).symm
  · exact (congrFun c103 3).trans (congrFun c1321 6).symm
  · have i480 := zvl_480 hv
    rw [row] at hu ⊢
    have ok := List.all_eq_true.mp zrmOk_t i (List.mem_range.mpr i480)
    have hv' : (zla i).1 < 58 := hv
    have e3 : zr_M 3 = 0 := rfl
    have e4 : zr_M 4 = 0 := rfl
    have e5 : zr_M 5 = 0 := rfl
    have e6 : zr_M 6 = 0 := rfl
    have u : ¬ (212 ≤ i ∧ i < 232) ∧ ¬ 240 ≤ i := by
      obtain ⟨u1, u2, u3, u4⟩ := hu
      rw [e3] at u1
      rw [e4] at u2
      rw [e5] at u3
      rw [e6] at u4
      refine ⟨fun z => ?_, fun z => ?_⟩
      · by_cases h : i < 216
        · have := u1 z.1 h; omega
        · have := u2 (by omega) z.2; omega
      · by_cases h : i < 360
        · have := u3 z h; omega
        · have := u4 (by omega); omega
    rw [if_pos ⟨hv', u.1, u.2⟩] at ok
    cases hx : (zc_Room 1)[(zla i).1]? with
    | none => rw [hx] at ok; cases ok
    | some x =>
      rw [hx] at ok
      have e := mR (zla i).1 x (by omega) hx
      have ec : (1 : Int) + ((zla i).1 : Int) = ((1 + (zla i).1 : Nat) : Int) := by omega
      rw [ec, e]
      exact eq_of_beq ok
  · rw [row]; exact zrm_RB
  · rw [row] at n1
    have e3 : zr_M 3 = 0 := rfl
    rw [e3] at n1
    omega
  · exact congrFun c11 1
  · exact congrFun c15 1
  · exact congrFun c19 1
  · have h88 : ν 88 k = 0 := congrFun c88 k
    have h24 : ν 1324 k = 0 := congrFun c1324 k
    rw [h88, h24]
    exact ⟨rfl, Or.inl rfl, fun z => absurd z (by decide)⟩
  · have h45 : ν 1320 45 = -1 := congrFun c1320 45
    rw [h45, if_pos rfl]
    have h100 : ν 100 p = zfs9 (zdf 12 5) ((5 : Nat) : Int) (-1) p := congrFun c100 p
    rw [h100]
    unfold zfs9
    rw [if_pos ⟨p0, p1⟩]
  · obtain ⟨n, rfl⟩ : ∃ n : Nat, s = (n : Int) := ⟨s.toNat, by omega⟩
    have hn : n < 243 := by omega
    have q0 := bigE (29 + (4 * n + 0)) 15 (105 + (29 + 4 * n)) (by omega) ((zcRe_l hn (by omega)).trans rfl) ((zcRe_l (r := 1) hn (by omega)).trans rfl)
    have q2 := bigE (29 + (4 * n + 2)) 15 (105 + (29 + 4 * n + 2)) (by omega) ((zcRe_l hn (by omega)).trans rfl) ((zcRe_l (r := 3) hn (by omega)).trans rfl)
    rw [show ((105 + (29 + (4 * n + 0)) : Nat) : Int) = 134 + 4 * (n : Int) by omega] at q0
    rw [show ((105 + (29 + (4 * n + 2)) : Nat) : Int) = 136 + 4 * (n : Int) by omega] at q2
    exact ⟨q0, q2⟩
  · exact bigE 19 15 (105 + 19) (by omega) ((zcRe_p (by omega)).trans rfl) ((zcRe_p (r := 20) (by omega)).trans rfl)
  · exact bigE 21 15 (105 + 21) (by omega) ((zcRe_p (by omega)).trans rfl) ((zcRe_p (r := 22) (by omega)).trans rfl)
  · exact bigE 23 15 (105 + 23) (by omega) ((zcRe_p (by omega)).trans rfl) ((zcRe_p (r := 24) (by omega)).trans rfl)
  · exact bigE 25 15 (105 + 25) (by omega) ((zcRe_p (by omega)).trans rfl) ((zcRe_p (r := 26) (by omega)).trans rfl)
  · exact bigE 27 15 (105 + 27) (by omega) ((zcRe_p (by omega)).trans rfl) ((zcRe_p (r := 28) (by omega)).trans rfl)
  · obtain ⟨s, rfl⟩ : ∃ s : Nat, n = (s : Int) := ⟨n.toNat, by omega⟩
    have hs : s < 4 := by omega
    have q0 := bigC (1012 + (8 * s + 0)) 170 (104 + (1012 + 8 * s)) (by omega) ((zcSc_l hs (by omega)).trans rfl) ((zcSc_l (r := 1) hs (by omega)).trans rfl)
    rw [show ((104 + (1012 + (8 * s + 0)) : Nat) : Int) = 1116 + 8 * (s : Int) by omega] at q0
    have q2 := bigC (1012 + (8 * s + 2)) 170 (104 + (1012 + 8 * s + 2)) (by omega) ((zcSc_l hs (by omega)).trans rfl) ((zcSc_l (r := 3) hs (by omega)).trans rfl)
    rw [show ((104 + (1012 + (8 * s + 2)) : Nat) : Int) = 1118 + 8 * (s : Int) by omega] at q2
    have q4 := bigC (1012 + (8 * s + 4)) 15 (104 + (1012 + 8 * s + 4)) (by omega) ((zcSc_l hs (by omega)).trans rfl) ((zcSc_l (r := 5) hs (by omega)).trans rfl)
    rw [show ((104 + (1012 + (8 * s + 4)) : Nat) : Int) = 1120 + 8 * (s : Int) by omega] at q4
    have q6 := bigC (1012 + (8 * s + 6)) 15 (104 + (1012 + 8 * s + 6)) (by omega) ((zcSc_l hs (by omega)).trans rfl) ((zcSc_l (r := 7) hs (by omega)).trans rfl)
    rw [show ((104 + (1012 + (8 * s + 6)) : Nat) : Int) = 1122 + 8 * (s : Int) by omega] at q6
    exact ⟨q0, q2, q4, q6⟩
  · exact bigC 1006 170 (104 + 1006) (by omega) ((zcSc_q (r := 4) (by omega)).trans rfl) ((zcSc_q (r := 5) (by omega)).trans rfl)
  · exact bigC 1008 170 (104 + 1008) (by omega) ((zcSc_q (r := 6) (by omega)).trans rfl) ((zcSc_q (r := 7) (by omega)).trans rfl)
  · exact bigC 1010 170 (104 + 1010) (by omega) ((zcSc_q (r := 8) (by omega)).trans rfl) ((zcSc_q (r := 9) (by omega)).trans rfl)
  · obtain ⟨n, rfl, hn⟩ : ∃ n : Nat, k = (n : Int) ∧ n < 2 := ⟨k.toNat, by omega, by omega⟩
    have g : ∀ (r : Nat) (x : Nat × Nat × (Int → Int)), r < 86 → (zc_Room (1148 + 86 * n))[r]? = some x → ν (1148 + 86 * (n : Int) + r) = x.2.2 := fun r x hr e => by
      have := mI n r x hn hr e
      rw [show ((1148 + 86 * n + r : Nat) : Int) = 1148 + 86 * (n : Int) + r by omega] at this
      exact this
    exact ⟨congrFun (g 10 _ (by omega) rfl) 1, congrFun (g 14 _ (by omega) rfl) 1, congrFun (g 18 _ (by omega) rfl) 1⟩
end

/-! moved, span -/
theorem zfc_ext {δ δ' : Nat → Int → Int} {p g s go : Int} (e9 : δ 9 g = δ' 9 g) (es : zseen δ p = zseen δ' p) (eh : zand (δ 3 p) (zoth (δ 10 0) p) = zand (δ' 3 p) (zoth (δ' 10 0) p)) (ef : zand (zand (zseen δ p) (δ 4 p)) (zor s go) = zand (zand (zseen δ' p) (δ' 4 p)) (zor s go)) (e5 : δ 5 p = δ' 5 p) (e6 : δ 6 p = δ' 6 p) (e7 : δ 7 p = δ' 7 p) (e8 : δ 8 p = δ' 8 p) : zfc δ p g s go = zfc δ' p g s go := by
  funext q
  unfold zfc
  rw [e9, ef, es, eh, e5, e6, e7, e8]
theorem zcha_ext {δ δ' : Nat → Int → Int} {law : Option zLaw} {wo p g s go : Int} (h0 : δ 0 p = δ' 0 p) (h1 : δ 1 p = δ' 1 p) (hF : zfc δ p g s go = zfc δ' p g s go) : zcha δ law wo p g s go = zcha δ' law wo p g s go := by
  unfold zcha
  rw [h0, h1, hF]
theorem zpr_congr {c c' : Int → Int} : ∀ n : Nat, (∀ p : Int, 0 ≤ p → p < n → c p = c' p) → zpr c n = zpr c' n
  | 0, _ => rfl
  | n + 1, h => by
    unfold zpr
    rw [zpr_congr n (fun p a b => h p a (by omega)), h n (by omega) (by omega)]
theorem zsty_congr {c c' : Int → Int → Int} {m : Nat} : ∀ G : Nat, (∀ p g : Int, 0 ≤ p → p < m → 0 ≤ g → g < G → c p g = c' p g) → zsty c m G = zsty c' m G
  | 0, _ => rfl
  | G + 1, h => by
    unfold zsty
    rw [zsty_congr G (fun p g a b c d => h p g a b c (by omega)), zpr_congr m (fun p a b => h p G a b (by omega) (by omega))]
def zanyd (δ : Nat → Int → Int) (law : Option zLaw) (wo : Int) (m G : Nat) : Int := zmil (100 ^ (m * G) - zsty (fun p g => zcha δ law wo p g 0 0) m G) (m * G)
theorem zanyd_bd {δ : Nat → Int → Int} {law : Option zLaw} {wo : Int} {m G : Nat} : 0 ≤ zanyd δ law wo m G ∧ zanyd δ law wo m G ≤ 1000000 := by
  have b := zsty_bd (c := fun p g => zcha δ law wo p g 0 0) (fun _ _ => zcha_bd) m G
  exact zmil_bd (by omega) (by omega)
/-- the row as makeSo leaves it -/
def zmks (ρ : Int → Int) (P w : Int) : Int → Int := zmk2 (zmk1 ρ P w 5) w 12
section
variable {ρ : Int → Int} {P w : Int}
theorem zmks_far {j : Int} (P0 : 0 ≤ P) (P1 : P < 6) (h : j < 40 ∨ 212 ≤ j) : zmks ρ P w j = ρ j := by
  unfold zmks zmk2 zmk1
  repeat' split
  all_goals first | rfl | (exfalso; omega)
theorem zmks_0 {p : Int} (w0 : 0 ≤ w) (w1 : w ≤ 10) (P0 : 0 ≤ P) (P1 : P < 6) (p0 : 0 ≤ p) (p1 : p < 5) : zmks ρ P w (40 + 10 * P + 2 * p) = if w = 4 then 0 else ρ (40 + 10 * P + 2 * p) := by
  unfold zmks zmk2 zmk1
  repeat' split
  all_goals first | rfl | (exfalso; omega)
theorem zmks_1 {p : Int} (w0 : 0 ≤ w) (w1 : w ≤ 10) (P0 : 0 ≤ P) (P1 : P < 6) (p0 : 0 ≤ p) (p1 : p < 5) : zmks ρ P w (41 + 10 * P + 2 * p) = ρ (41 + 10 * P + 2 * p) := by
  unfold zmks zmk2 zmk1
  repeat' split
  all_goals first | rfl | (exfalso; omega)
theorem zmks_2 {p : Int} (w0 : 0 ≤ w) (w1 : w ≤ 10) (P0 : 0 ≤ P) (P1 : P < 6) (p0 : 0 ≤ p) (p1 : p < 5) : zmks ρ P w (100 + 10 * P + p) = if w = 7 then zand 31 (zxor (zshl 1 p) (-1)) else if w = 8 then 0 else ρ (100 + 10 * P + p) := by
  unfold zmks zmk2 zmk1
  rw [show 100 + 10 * P + p - (100 + 10 * P) = p by omega]
  repeat' split
  all_goals first | rfl | (exfalso; omega)
theorem zmks_3 {p : Int} (w0 : 0 ≤ w) (w1 : w ≤ 10) (P0 : 0 ≤ P) (P1 : P < 6) (p0 : 0 ≤ p) (p1 : p < 5) : zmks ρ P w (105 + 10 * P + p) = if w = 9 then zand 31 (zxor (zshl 1 p) (-1)) else if w = 10 then 0 else ρ (105 + 10 * P + p) := by
  unfold zmks zmk2 zmk1
  rw [show 105 + 10 * P + p - (105 + 10 * P) = p by omega]
  repeat' split
  all_goals first | rfl | (exfalso; omega)
theorem zmks_4 {p : Int} (w0 : 0 ≤ w) (w1 : w ≤ 10) (P0 : 0 ≤ P) (P1 : P < 6) (p0 : 0 ≤ p) (p1 : p < 5) : zmks ρ P w (190 + p) = if w = 0 then zand 31 (zxor (zshl 1 p) (-1)) else if w = 1 then 0 else ρ (190 + p) := by
  unfold zmks zmk2 zmk1
  rw [show 190 + p - 190 = p by omega]
  repeat' split
  all_goals first | rfl | (exfalso; omega)
theorem zmks_8 {p : Int} (w0 : 0 ≤ w) (w1 : w ≤ 10) (P0 : 0 ≤ P) (P1 : P < 6) (p0 : 0 ≤ p) (p1 : p < 5) : zmks ρ P w (160 + 5 * P + p) = if w = 2 then 0 else if w = 3 then -1 else ρ (160 + 5 * P + p) := by
  unfold zmks zmk2 zmk1
  repeat' split
  all_goals first | rfl | (exfalso; omega)
theorem zmks_9 {g : Int} (w0 : 0 ≤ w) (w1 : w ≤ 10) (P0 : 0 ≤ P) (P1 : P < 6) (g0 : 0 ≤ g) (g1 : g < 12) : zmks ρ P w (200 + g) = if w = 5 then 99 else if w = 6 then 0 else ρ (200 + g) := by
  unfold zmks zmk2 zmk1
  repeat' split
  all_goals first | rfl | (exfalso; omega)
/-- altered so or so, the chances are the same -/
theorem zmks_cha {m p g wo : Int} {law : Option zLaw} (w0 : 0 ≤ w) (w1 : w ≤ 10) (P0 : 0 ≤ P) (P1 : P < 6) (p0 : 0 ≤ p) (p1 : p < 5) (g0 : 0 ≤ g) (g1 : g < 12) : zcha (zMd (zmks ρ P w) P m 0 0) law wo p g 0 0 = zcha (zalt (zMd ρ P m 0 0) w) law wo p g 0 0 := by
  obtain ⟨pn, hpn⟩ : ∃ n : Nat, p = n := ⟨p.toNat, by omega⟩
  have z0 : zand (zshr 0 p) 1 = 0 := by rw [hpn]; exact zshr0 pn (by omega)
  have key : ∀ T M N : BitVec 32, T &&& N &&& (M &&& N) = T &&& (M &&& N) := by
    intro T M N
    ext i hi
    simp only [BitVec.getElem_and]
    cases T[i] <;> cases M[i] <;> cases N[i] <;> rfl
  have key2 : ∀ A M N T x : BitVec 32, A &&& (M &&& N) &&& (T &&& N) &&& x = A &&& (M &&& N) &&& T &&& x := by
    intro A M N T x
    ext i hi
    simp only [BitVec.getElem_and]
    cases A[i] <;> cases T[i] <;> cases M[i] <;> cases N[i] <;> cases x[i] <;> rfl
  have m31 : zand (zand 31 (zxor (zshl 1 p) (-1))) (zoth m p) = zand 31 (zoth m p) := by
    refine zand_eq ?_
    unfold zoth
    simp only [zB_and]
    exact key _ _ _
  have s2 : zseen (zMd (zmks ρ P w) P m 0 0) p = zseen (zalt (zMd ρ P m 0 0) w) p := by
    show zand (if (0 : Int) = 0 then zmks ρ P w (100 + 10 * P + p) else 0) (zoth m p) = zand (if w = 7 then 31 else if w = 8 then 0 else (if (0 : Int) = 0 then ρ (100 + 10 * P + p) else 0)) (zoth m p)
    rw [if_pos rfl, if_pos rfl, zmks_2 w0 w1 P0 P1 p0 p1]
    by_cases e : w = 7
    · rw [if_pos e, if_pos e]; exact m31
    · rw [if_neg e, if_neg e]
  refine zcha_ext ?_ (zmks_1 w0 w1 P0 P1 p0 p1) (zfc_ext ?_ s2 ?_ ?_ ?_ ?_ ?_ ?_)
  · exact zmks_0 w0 w1 P0 P1 p0 p1
  · exact zmks_9 w0 w1 P0 P1 g0 g1
  · show zand (if (0 : Int) = 0 then zmks ρ P w (105 + 10 * P + p) else 0) (zoth m p) = zand (if w = 9 then 31 else if w = 10 then 0 else (if (0 : Int) = 0 then ρ (105 + 10 * P + p) else 0)) (zoth m p)
    rw [if_pos rfl, if_pos rfl, zmks_3 w0 w1 P0 P1 p0 p1]
    by_cases e : w = 9
    · rw [if_pos e, if_pos e]; exact m31
    · rw [if_neg e, if_neg e]
  · rw [s2]
    show zand (zand _ (zmks ρ P w (190 + p))) _ = zand (zand _ (if w = 0 then 31 else if w = 1 then 0 else ρ (190 + p))) _
    rw [zmks_4 w0 w1 P0 P1 p0 p1]
    by_cases e : w = 0
    · rw [if_pos e, if_pos e]
      refine zand_eq ?_
      show zB (zand (zand (zalt (zMd ρ P m 0 0) w 2 p) (zoth m p)) (zand 31 (zxor (zshl 1 p) (-1)))) &&& _ = zB (zand (zand (zalt (zMd ρ P m 0 0) w 2 p) (zoth m p)) 31) &&& _
      unfold zoth
      simp only [zB_and]
      exact key2 _ _ _ _ _
    · rw [if_neg e, if_neg e]
  · exact zmks_far P0 P1 (Or.inl (by omega))
  · exact zmks_far P0 P1 (Or.inl (by omega))
  · exact zmks_far P0 P1 (Or.inl (by omega))
  · show (if zand (zshr 0 p) 1 = 1 then 0 else zmks ρ P w (160 + 5 * P + p)) = (if w = 2 then 0 else if w = 3 then -1 else (if zand (zshr 0 p) 1 = 1 then 0 else ρ (160 + 5 * P + p)))
    rw [z0, if_neg (show ¬ (0 : Int) = 1 by decide), if_neg (show ¬ (0 : Int) = 1 by decide)]
    exact zmks_8 w0 w1 P0 P1 p0 p1
end
def zmoved (ρ : Int → Int) (P : Int) (law : Option zLaw) (w : Int) : Int := zanyd (zalt (zMd ρ P (ρ (10 + P)) 0 0) w) law (-1) (ρ (10 + P)).toNat (ρ 2).toNat - zanyv ρ P law (-1)
theorem zmoved_bd {ρ : Int → Int} {P : Int} {law : Option zLaw} {w : Int} : -1000000 ≤ zmoved ρ P law w ∧ zmoved ρ P law w ≤ 1000000 := by
  have a := zanyd_bd (δ := zalt (zMd ρ P (ρ (10 + P)) 0 0) w) (law := law) (wo := -1) (m := (ρ (10 + P)).toNat) (G := (ρ 2).toNat)
  have b := zanyv_bd (ρ := ρ) (P := P) (law := law) (wo := -1)
  unfold zmoved
  omega
section
variable {X : zX} {l : Launch} {d : Nat} {μ : zM}
theorem k_S_movedBy {P w : Int} {law : Option zLaw} {Q : Int → zM → Prop} (hd : 6 ≤ d) (h : zInv zLR μ) (hl : zLk μ (μ 1322 1) law) (P0 : 0 ≤ P) (P1 : P < 6) (w0 : 0 ≤ w) (w1 : w ≤ 10) (hQ : ∀ ν, zCm μ ν → Q (zmoved (μ 1322) P law w) ν) : zCi X true l d 0 0 y_S_movedBy [(12, 0, 0), (0, 0, P), (0, 0, w)] μ Q := by
  obtain ⟨m0, m1, m2⟩ := h.many P0 P1
  obtain ⟨g0, g1, g2⟩ := h.long
  obtain ⟨f0, f1, f2, f3⟩ := h.force
  have hB := h.2.2.2.2.2.2.2.2
  have hD := zMd_db (bs := 0) (al := 0) h.rb P0 P1 m1 m2
  refine c_S_movedBy (a0 := 0) (d1 := 5) (by omega) (c_S_anyOf (a0 := 0) (d1 := 4) (by omega) ?_)
  simp only [Int.reduceAdd]
  rw [f0]
  refine k_take (by omega) h P0 P1 (by omega) (fun ν n1 n2 n3 n4 n5 => ?_)
  have e4 : ν 1 4 = ((μ 1322 2).toNat : Int) := by rw [n1 1 (by decide), g0]; omega
  rw [e4]
  refine k_any (m := (μ 1322 (10 + P)).toNat) (by omega) (by omega) n3 hD (hl.1 ν (fun b b0 b1 => n1 b (by omega)) n4) (show μ 1322 (10 + P) = _ by omega) (by omega) (hB.keep2 (fun b b0 b1 => n1 b (by omega))) (fun ν2 t1 t2 => ?_)
  rw [n5]
  refine k_alter (by omega) (n3.keep (fun b b0 b1 => t1 b (by omega) (by omega) (by omega))) w0 w1 (fun ν3 r1 r2 => ?_)
  have e : ∀ b : Int, ¬ (105 ≤ b ∧ b ≤ 131) → ν3 b = μ b := fun b hb => by rw [r1 b (by omega), t1 b (by omega) (by omega) (by omega), n1 b (by omega)]
  have e106 : ν3 106 = ν 106 := by rw [r1 106 (by decide), t1 106 (by decide) (by decide) (by decide)]
  have e4' : ν3 1 4 = ((μ 1322 2).toNat : Int) := by rw [e 1 (by decide), g0]; omega
  rw [e4']
  refine k_any (m := (μ 1322 (10 + P)).toNat) (by omega) (by omega) r2 (zalt_db hD) (hl.1 ν3 (fun b b0 b1 => e b (by omega)) (by rw [e106]; exact n4)) (show μ 1322 (10 + P) = _ by omega) (by omega) (t2.keep2 (fun b b0 b1 => r1 b (by omega))) (fun ν4 s1 s2 => ?_)
  have bd1 := zanyd_bd (δ := zalt (zMd (μ 1322) P (μ 1322 (10 + P)) 0 0) w) (law := law) (wo := -1) (m := (μ 1322 (10 + P)).toNat) (G := (μ 1322 2).toNat)
  have bd2 := zanyd_bd (δ := zMd (μ 1322) P (μ 1322 (10 + P)) 0 0) (law := law) (wo := -1) (m := (μ 1322 (10 + P)).toNat) (G := (μ 1322 2).toNat)
  rw [e106, n5]
  show Q (zw (zanyd (zalt (zMd (μ 1322) P (μ 1322 (10 + P)) 0 0) w) law (-1) (μ 1322 (10 + P)).toNat (μ 1322 2).toNat - zanyd (zMd (μ 1322) P (μ 1322 (10 + P)) 0 0) law (-1) (μ 1322 (10 + P)).toNat (μ 1322 2).toNat)) ν4
  rw [zw_of (by omega) (by omega)]
  have e2 : ∀ b : Int, ¬ (105 ≤ b ∧ b ≤ 131) → ν4 b = μ b := fun b hb => by rw [s1 b (by omega) (by omega) (by omega), e b hb]
  exact hQ ν4 ⟨fun b b0 b1 => e2 b (by omega), e2 _ (by decide), fun b b0 b1 => e2 b (by omega), fun b b0 b1 => e2 b (by omega), e2 _ (by decide), by rw [e2 1320 (by decide)]; exact ⟨rfl, rfl, rfl, rfl⟩, s2⟩
theorem k_M_anyOf0 {P x r : Int} {law : Option zLaw} {Q : Int → zM → Prop} (hd : 5 ≤ d) (hR : zRB (μ 1322)) (hl : ∀ ν : zM, ν 1322 = μ 1322 → ν 1320 32 = x → zML ν law) (P0 : 0 ≤ P) (P1 : P < 6) (hQ : ∀ ν, (∀ b : Int, b ≠ 1320 → ¬ (1331 ≤ b ∧ b ≤ 1335) → ν b = μ b) → (∀ j : Int, j ≠ 24 → j ≠ 27 → j ≠ 28 → j ≠ 29 → j ≠ 30 → j ≠ 31 → j ≠ 32 → j ≠ 33 → j ≠ 34 → ν 1320 j = μ 1320 j) → Q (zanyv (μ 1322) P law r) ν) : zCi X true l d 0 0 y_M_anyOf [(13, 0, 1320), (0, 0, P), (0, 0, x), (0, 0, r)] μ Q := by
  have m12 := hR.2.2.2.2.2.2.2.1 (10 + P) (by omega) (by omega)
  have g12 := hR.2.2.1
  refine c_M_anyOf (a0 := 1320) (d1 := 4) (by omega) ?_
  simp only [Int.reduceAdd]
  rw [zw_of (x := 10 + P) (by omega) (by omega)]
  refine ⟨by omega, c_M_lookAt ?_⟩
  generalize hμ2 : zup (zup (zup (zup (zup (zup μ 1320 30 P) 1320 31 (μ 1322 (10 + P))) 1320 32 x) 1320 33 (-1)) 1320 34 0) 1320 33 r = μ2
  have q30 : μ2 1320 30 = P := by rw [← hμ2]; simp [zup]
  have q31 : μ2 1320 31 = μ 1322 (10 + P) := by rw [← hμ2]; simp [zup]
  have q32 : μ2 1320 32 = x := by rw [← hμ2]; simp [zup]
  have q33 : μ2 1320 33 = r := by rw [← hμ2]; simp [zup]
  have q34 : μ2 1320 34 = 0 := by rw [← hμ2]; simp [zup]
  have q0 : ∀ b : Int, b ≠ 1320 → μ2 b = μ b := fun b hb => by rw [← hμ2, zup_ne hb, zup_ne hb, zup_ne hb, zup_ne hb, zup_ne hb, zup_ne hb]
  have qj : ∀ j : Int, j ≠ 30 → j ≠ 31 → j ≠ 32 → j ≠ 33 → j ≠ 34 → μ2 1320 j = μ 1320 j := fun j j1 j2 j3 j4 j5 => by rw [← hμ2, zup_miss (by omega), zup_miss (by omega), zup_miss (by omega), zup_miss (by omega), zup_miss (by omega), zup_miss (by omega)]
  have r22 := q0 1322 (by decide)
  have e2 : μ2 1322 2 = ((μ 1322 2).toNat : Int) := by rw [r22]; omega
  have e31 : μ2 1320 31 = ((μ 1322 (10 + P)).toNat : Int) := by rw [q31]; omega
  rw [e2]
  refine k_findAny (law := law) (by omega) (by rw [r22]; exact hR) q30 P0 P1 e31 (by omega) q34 (hl μ2 r22 q32) (by omega) (fun ν n1 n2 n3 n4 => ?_)
  have sb := zsty_bd (c := fun p g => zcha (zMd (μ2 1322) P ((μ 1322 (10 + P)).toNat : Int) 0 0) law (μ2 1320 33) p g 0 0) (fun _ _ => zcha_bd) (μ 1322 (10 + P)).toNat (μ 1322 2).toNat
  have e5 : ν 1320 31 = ((μ 1322 (10 + P)).toNat : Int) := by rw [n2 31 (by decide) (by decide) (by decide) (by decide)]; exact e31
  have e6 : ν 1322 2 = ((μ 1322 2).toNat : Int) := by rw [n1 1322 (by decide) (by decide)]; exact e2
  have h60 := zmn (m := (μ 1322 (10 + P)).toNat) (G := (μ 1322 2).toNat) (by omega) (by omega)
  rw [e5, e6, ← Int.natCast_mul, zw_of (by omega) (by omega)]
  refine k_M_millionths (by omega) (by omega) (by decide) h60 n4 (by rw [← zhun]; omega) (fun ν2 t1 => ?_)
  rw [r22, q33] at *
  have em : ((μ 1322 (10 + P)).toNat : Int) = μ 1322 (10 + P) := by omega
  rw [em]
  exact hQ ν2 (fun b b0 b1 => by rw [t1 b (by omega), n1 b b0 (by omega), q0 b b0]) (fun j j1 j2 j3 j4 j5 j6 j7 j8 j9 => by rw [t1 1320 (by decide), n2 j j1 j2 j3 j4, qj j j5 j6 j7 j8 j9])
theorem zML.far {μ ν : zM} {law : Option zLaw} (h : zML μ law) (h1 : ν 1320 32 = μ 1320 32) (h2 : ∀ j : Int, 480 ≤ j → ν 1322 j = μ 1322 j) : zML ν law := by
  cases law with
  | none =>
    unfold zML at h ⊢
    rw [h1]; exact h
  | some w =>
    obtain ⟨a1, a2, a3, a4, a5, a6⟩ := h
    unfold zML
    rw [h1]
    exact ⟨a1, a2, a3, a4, a5.congr (by omega) (fun i i0 i1 => h2 _ (by omega)), a6⟩
theorem k_M_movedOf {P w : Int} {law : Option zLaw} {Q : Int → zM → Prop} (hd : 6 ≤ d) (h : zInv zLR μ) (hl : zLk μ (μ 1322 1) law) (P0 : 0 ≤ P) (P1 : P < 6) (w0 : 0 ≤ w) (w1 : w ≤ 10) (hQ : ∀ ν, zCm μ ν → Q (zmoved (μ 1322) P law w) ν) : zCi X true l d 0 0 y_M_movedOf [(13, 0, 1320), (0, 0, P), (0, 0, w)] μ Q := by
  have hB := h.2.2.2.2.2.2.2.2
  obtain ⟨m0, m1, m2⟩ := h.many P0 P1
  obtain ⟨g0, g1, g2⟩ := h.long
  refine c_M_movedOf (a0 := 1320) (d1 := 5) (by omega) (k_M_anyOf0 (law := law) (by omega) h.rb hl.2 P0 P1 (fun ν1 n1 n2 => ?_))
  have bd1 := zanyd_bd (δ := zalt (zMd (μ 1322) P (μ 1322 (10 + P)) 0 0) w) (law := law) (wo := -1) (m := (μ 1322 (10 + P)).toNat) (G := (μ 1322 2).toNat)
  have bd2 := zanyv_bd (ρ := μ 1322) (P := P) (law := law) (wo := -1)
  -- what stays, at any time
  have fin : ∀ ν : zM, (∀ b : Int, b ≠ 1320 → b ≠ 1322 → ¬ (1331 ≤ b ∧ b ≤ 1341) → ν b = μ b) → (∀ j : Int, ν 1322 j = μ 1322 j) → (∀ j : Int, j ≠ 24 → j ≠ 27 → j ≠ 28 → j ≠ 29 → j ≠ 30 → j ≠ 31 → j ≠ 32 → j ≠ 33 → j ≠ 34 → ν 1320 j = μ 1320 j) → Q (zmoved (μ 1322) P law w) ν := fun ν q1 q2 q3 => by
    have e22 : ν 1322 = μ 1322 := funext q2
    refine hQ ν ⟨fun b b0 b1 => q1 b (by omega) (by omega) (by omega), q1 _ (by decide) (by decide) (by decide), fun b b0 b1 => q1 b (by omega) (by omega) (by omega), fun b b0 b1 => ?_, q1 _ (by decide) (by decide) (by decide), ⟨q3 1 (by decide) (by decide) (by decide) (by decide) (by decide) (by decide) (by decide) (by decide) (by decide), q3 7 (by decide) (by decide) (by decide) (by decide) (by decide) (by decide) (by decide) (by decide) (by decide), q3 12 (by decide) (by decide) (by decide) (by decide) (by decide) (by decide) (by decide) (by decide) (by decide), q3 45 (by decide) (by decide) (by decide) (by decide) (by decide) (by decide) (by decide) (by decide) (by decide)⟩, hB.keep2 (fun b b0 b1 => q1 b (by omega) (by omega) (by omega))⟩
    by_cases e : b = 1322
    · rw [e]; exact e22
    · exact q1 b (by omega) e (by omega)
  have l67 : ∀ m i : Nat, i + m = 480 → ∀ ν : zM, (∀ b : Int, b ≠ 1320 → b ≠ 1322 → ¬ (1331 ≤ b ∧ b ≤ 1339) → b ≠ 1340 → b ≠ 1341 → ν b = μ b) → (∀ j : Int, 0 ≤ j → j < 480 → ν 1340 j = μ 1322 j) → (∀ j : Int, j < i → ν 1322 j = μ 1322 j) → (∀ j : Int, 480 ≤ j → ν 1322 j = μ 1322 j) → (∀ j : Int, j ≠ 24 → j ≠ 27 → j ≠ 28 → j ≠ 29 → j ≠ 30 → j ≠ 31 → j ≠ 32 → j ≠ 33 → j ≠ 34 → ν 1320 j = μ 1320 j) → zE X true l d 0 0 y_M_movedOf 67 [some (13, 0, 1320), none, none, some (0, 0, zanyv (μ 1322) P law (-1)), some (0, 0, zanyd (zalt (zMd (μ 1322) P (μ 1322 (10 + P)) 0 0) w) law (-1) (μ 1322 (10 + P)).toNat (μ 1322 2).toNat), some (0, 0, (i : Int))] [] ν (zri Q) := by
    intro m
    induction m with
    | zero =>
      intro i hi ν q1 q2 q3 q4 q5
      obtain rfl : i = 480 := by omega
      refine s_M_movedOf_67 ⟨fun _ => ?_, fun c => absurd (by decide) c⟩
      rw [zw_of (by omega) (by omega)]
      refine fin ν (fun b b0 b1 b2 => q1 b b0 b1 (by omega) (by omega) (by omega)) (fun j => ?_) q5
      by_cases c : j < 480
      · exact q3 j c
      · exact q4 j (by omega)
    | succ m ih =>
      intro i hi ν q1 q2 q3 q4 q5
      refine s_M_movedOf_67 (a0 := 1320) ⟨fun c => absurd c (by omega), fun _ => ⟨by omega, by omega, ?_⟩⟩
      simp only [Int.reduceAdd]
      rw [zw_of (by omega) (by omega)]
      refine ih (i + 1) (by omega) _ (fun b b0 b1 b2 b3 b4 => (zup_ne b1).trans (q1 b b0 b1 b2 b3 b4)) (fun j j0 j1 => by rw [zup_ne (by decide)]; exact q2 j j0 j1) (fun j hj => ?_) (fun j hj => ?_) (fun j a1 a2 a3 a4 a5 a6 a7 a8 a9 => by rw [zup_ne (by decide)]; exact q5 j a1 a2 a3 a4 a5 a6 a7 a8 a9)
      · rw [zup_val]
        split
        · rename_i e; rw [e]; exact q2 i (by omega) (by omega)
        · exact q3 j (by omega)
      · rw [zup_miss (by omega)]; exact q4 j hj
  have l16 : ∀ m i : Nat, i + m = 480 → ∀ ν : zM, (∀ b : Int, b ≠ 1320 → ¬ (1331 ≤ b ∧ b ≤ 1335) → b ≠ 1340 → ν b = μ b) → (∀ j : Int, 0 ≤ j → j < i → ν 1340 j = μ 1322 j) → (∀ j : Int, j ≠ 24 → j ≠ 27 → j ≠ 28 → j ≠ 29 → j ≠ 30 → j ≠ 31 → j ≠ 32 → j ≠ 33 → j ≠ 34 → ν 1320 j = μ 1320 j) → zE X true l d 0 0 y_M_movedOf 16 [some (13, 0, 1320), some (0, 0, P), some (0, 0, w), some (0, 0, zanyv (μ 1322) P law (-1)), some (0, 0, (i : Int)), none] [] ν (zri Q) := by
    intro m
    induction m with
    | zero =>
      intro i hi ν q1 q2 q3
      obtain rfl : i = 480 := by omega
      have e22 := q1 1322 (by decide) (by decide) (by decide)
      refine s_M_movedOf_16 (a0 := 1320) (d1 := 5) (by omega) ⟨fun _ => k_makeSo (by rw [e22]; exact h.rb) P0 P1 w0 w1 (fun ν2 r1 r2 r3 => ?_), fun c => absurd (by decide) c⟩
      rw [e22] at r2
      have r2' : ν2 1322 = zmks (μ 1322) P w := r2
      have ef : ν2 (1320 + 2) 1 = μ 1322 1 := by show ν2 1322 1 = _; rw [r2']; exact zmks_far P0 P1 (Or.inl (by decide))
      rw [ef]
      refine k_M_anyOf0 (law := law) (by omega) r3 (fun ν' a b => ?_) P0 P1 (fun ν3 s1 s2 => ?_)
      · refine (hl.2 (zup (zup μ 1320 32 (μ 1322 1)) 1320 0 0) (by rw [zup_ne (by decide), zup_ne (by decide)]) (by rw [zup_miss (by decide), zup_hit])).far (by rw [b, zup_miss (by decide), zup_hit]) (fun j hj => ?_)
        rw [a, r2', zup_ne (by decide), zup_ne (by decide)]
        exact zmks_far P0 P1 (Or.inr (by omega))
      · have ev : zanyv (ν2 1322) P law (-1) = zanyd (zalt (zMd (μ 1322) P (μ 1322 (10 + P)) 0 0) w) law (-1) (μ 1322 (10 + P)).toNat (μ 1322 2).toNat := by
          unfold zanyv zanyd
          rw [r2', zmks_far P0 P1 (Or.inl (by omega)), zmks_far P0 P1 (Or.inl (by omega))]
          rw [zsty_congr (c' := fun p g => zcha (zalt (zMd (μ 1322) P (μ 1322 (10 + P)) 0 0) w) law (-1) p g 0 0) (μ 1322 2).toNat (fun p g p0 p1 g0 g1 => zmks_cha w0 w1 P0 P1 p0 (by omega) g0 (by omega))]
        rw [ev]
        refine l67 480 0 rfl ν3 (fun b b0 b1 b2 b3 b4 => ?_) (fun j j0 j1 => ?_) (fun j hj => ?_) (fun j hj => ?_) (fun j a1 a2 a3 a4 a5 a6 a7 a8 a9 => ?_)
        · rw [s1 b b0 (by omega), r1 b b1, q1 b b0 (by omega) b3]
        · rw [s1 1340 (by decide) (by decide), r1 _ (by decide), q2 j j0 j1]
        · rw [s1 1322 (by decide) (by decide), r2']; exact zmks_far P0 P1 (Or.inl (by omega))
        · rw [s1 1322 (by decide) (by decide), r2']; exact zmks_far P0 P1 (Or.inr (by omega))
        · rw [s2 j a1 a2 a3 a4 a5 a6 a7 a8 a9, r1 1320 (by decide)]; exact q3 j a1 a2 a3 a4 a5 a6 a7 a8 a9
    | succ m ih =>
      intro i hi ν q1 q2 q3
      have e22 := q1 1322 (by decide) (by decide) (by decide)
      refine s_M_movedOf_16 (a0 := 1320) (d1 := 5) (by omega) ⟨fun c => absurd c (by omega), fun _ => ⟨by omega, by omega, ?_⟩⟩
      simp only [Int.reduceAdd]
      rw [zw_of (by omega) (by omega), e22]
      refine ih (i + 1) (by omega) _ (fun b b0 b1 b2 => (zup_ne b2).trans (q1 b b0 b1 b2)) (fun j j0 j1 => ?_) (fun j a1 a2 a3 a4 a5 a6 a7 a8 a9 => by rw [zup_ne (by decide)]; exact q3 j a1 a2 a3 a4 a5 a6 a7 a8 a9)
      rw [zup_val]
      split
      · rename_i e; rw [e]
      · exact q2 j j0 (by omega)
  exact l16 480 0 rfl ν1 (fun b b0 b1 _ => n1 b b0 b1) (fun j j0 j1 => by omega) n2
end

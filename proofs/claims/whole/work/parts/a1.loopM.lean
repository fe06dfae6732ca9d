/-! law: the reference's clause, and all of them -/
section
variable {X : zX} {l : Launch} {d : Nat} {T : Int → Int} {L : Nat}
theorem k_mClause {μ : zM} {n q lv c : Nat} {Q : zM → Prop} (hd : 14 ≤ d) (ht : zTm μ T L q) (hb : μ 1320 13 = 0) (hn : μ 1320 14 = n) (n12 : n ≤ 12) (hc : μ 1320 16 = c) (hcq : c ≤ q) (hl : μ 1320 19 = lv) (l50 : lv ≤ 50)
    (h0 : ∀ q' lv' ν, ((n = 12 ∧ q' = q) ∨ (n < 12 ∧ zPk T L q lv = (q', lv', none))) → zFk μ ν → ν 1320 13 = 1 → ν 1320 12 = (q' : Nat) → Q ν)
    (h1 : ∀ q' lv' g ws wt ν, n < 12 → zPk T L q lv = (q', lv', some (g, ws, wt)) → zMp T L μ ν n c q' lv' g ws wt → Q ν) : zCv X true l d 0 0 y_M_readClause [(13, 0, 1320)] μ Q := by
  have hqL := ht.2.2.2.2.2.2.1
  have hL4 := ht.2.2.2.2.2.2.2
  have nq := znx_bd (T := T) hqL
  have bad : (n = 12 ∨ ¬ (zsr T L q = 1 ∧ (zwo T L q = 239 ∨ zwo T L q = 277892))) → Q (zup (zup μ 1320 13 1) 1320 12 q) := fun z => by
    refine h0 q lv _ ?_ ((zFk.refl.up (by simp)).up (by simp)) (by rw [zup_miss (by decide), zup_hit]) zup_hit
    by_cases e : n = 12
    · exact Or.inl ⟨e, rfl⟩
    · exact Or.inr ⟨by omega, zPk_no (z.resolve_left e)⟩
  have b13 : zup (zup μ 1320 13 1) 1320 12 q 1320 13 = 1 := by rw [zup_miss (by decide), zup_hit]
  have main : ∀ x : Int, (x = 0 ∨ x = 1) → (zsr T L q = 1 ∧ (zwo T L q = 239 ∨ zwo T L q = 277892)) → x = (if zwo T L q = 239 then 1 else 0) → zE X true l d 0 0 y_M_readClause 23 [some (13, 0, 1320), some (0, 0, x), none, none] [(13, 0, 1320)] μ (zrn Q) := fun x hx g eg => by
    have nq2 := nq.2.2 (by have := g.1; omega)
    refine s_M_readClause_23 (a0 := 1320) (d1 := d - 1) (by omega) ⟨fun z => ?_, fun z => ?_⟩
    · rw [hn] at z
      refine k_M_must (by omega) ht hb (fun e => absurd rfl e) (fun _ => ⟨fun y => ?_, fun _ => bad (Or.inl (by omega))⟩)
      rw [b13] at y; exact absurd y (by decide)
    rw [hn] at z
    refine k_M_must (by omega) ht hb (fun _ ν1 f1 f2 t1 => ⟨fun _ => ?_, fun y => absurd (by rw [f2 13 (by decide)]; exact hb) y⟩) (fun e => absurd e (by decide))
    have e14 : ν1 1320 14 = n := by rw [f2 14 (by decide)]; exact hn
    rw [e14, zw_of (by omega) (by omega)]
    have F1 : zFk μ ν1 := ⟨fun b h1 _ => f1 b h1, fun j h1 _ _ _ _ => f2 j (by omega)⟩
    -- with the eight places cleared
    have go : ∀ ρ : zM, (∀ b : Int, b ≠ 1326 → ρ b = ν1 b) → (∀ i : Int, i < 8 * n → ρ 1326 i = ν1 1326 i) → zE X true l d 0 0 y_M_readClause 58 [some (13, 0, 1320), some (0, 0, x), some (0, 0, 8 * (n : Int)), some (0, 0, 8)] [] ρ (zrn Q) := fun ρ r1 r2 => by
      refine s_M_readClause_58 (a0 := 1320) (d1 := d - 1) (by omega) ⟨fun _ => ?_, fun y => absurd (by decide) y⟩
      simp only [Int.reduceAdd]
      have z3 : zw (8 * (n : Int) + 3) = 8 * (n : Int) + 3 := zw_of (by omega) (by omega)
      have z4 : zw (8 * (n : Int) + 4) = 8 * (n : Int) + 4 := zw_of (by omega) (by omega)
      have z5 : zw (8 * (n : Int) + 5) = 8 * (n : Int) + 5 := zw_of (by omega) (by omega)
      have z6 : zw (8 * (n : Int) + 6) = 8 * (n : Int) + 6 := zw_of (by omega) (by omega)
      rw [z3, z4, z5, z6]
      have u1 : zup ρ 1326 (8 * (n : Int)) (if x = 0 then 1 else 0) 1320 14 = n := by rw [zup_ne (by decide), r1 1320 (by decide)]; exact e14
      rw [u1, zw_of (by omega) (by omega)]
      have u2 : zup (zup ρ 1326 (8 * (n : Int)) (if x = 0 then 1 else 0)) 1320 14 ((n : Int) + 1) 1320 16 = c := by rw [zup_miss (by decide), zup_ne (by decide), r1 1320 (by decide), f2 16 (by decide)]; exact hc
      rw [u2]
      refine ⟨by omega, by omega, ?_⟩
      -- the memory before the sum
      have a1 : ∀ b : Int, b ≠ 1326 → b ≠ 1320 → (zup (zup (zup ρ 1326 (8 * (n : Int)) (if x = 0 then 1 else 0)) 1320 14 ((n : Int) + 1)) 1326 (8 * (n : Int) + 3) c) b = μ b := fun b hb1 hb2 => by rw [zup_ne hb1, zup_ne hb2, zup_ne hb1, r1 b hb1, f1 b hb2]
      have a2 : ∀ j : Int, j ≠ 14 → (zup (zup (zup ρ 1326 (8 * (n : Int)) (if x = 0 then 1 else 0)) 1320 14 ((n : Int) + 1)) 1326 (8 * (n : Int) + 3) c) 1320 j = ν1 1320 j := fun j hj => by rw [zup_ne (by decide), zup_miss (by omega), zup_ne (by decide), r1 1320 (by decide)]
      have a3 : (zup (zup (zup ρ 1326 (8 * (n : Int)) (if x = 0 then 1 else 0)) 1320 14 ((n : Int) + 1)) 1326 (8 * (n : Int) + 3) c) 1320 14 = ((n + 1 : Nat) : Int) := by rw [zup_ne (by decide), zup_hit]; rfl
      have a4 : (zup (zup (zup ρ 1326 (8 * (n : Int)) (if x = 0 then 1 else 0)) 1320 14 ((n : Int) + 1)) 1326 (8 * (n : Int) + 3) c) 1326 (8 * (n : Int)) = 1 - x := by
        rw [zup_miss (by omega), zup_ne (by decide), zup_hit]
        rcases hx with y | y <;> rw [y] <;> decide
      have a5 : (zup (zup (zup ρ 1326 (8 * (n : Int)) (if x = 0 then 1 else 0)) 1320 14 ((n : Int) + 1)) 1326 (8 * (n : Int) + 3) c) 1326 (8 * (n : Int) + 3) = c := zup_hit
      have a6 : ∀ i : Int, i < 8 * n → (zup (zup (zup ρ 1326 (8 * (n : Int)) (if x = 0 then 1 else 0)) 1320 14 ((n : Int) + 1)) 1326 (8 * (n : Int) + 3) c) 1326 i = μ 1326 i := fun i hi => by rw [zup_miss (by omega), zup_ne (by decide), zup_miss (by omega), r2 i hi, f1 1326 (by decide)]
      generalize zup (zup (zup ρ 1326 (8 * (n : Int)) (if x = 0 then 1 else 0)) 1320 14 ((n : Int) + 1)) 1326 (8 * (n : Int) + 3) c = μ2 at *
      have t2 : zTm μ2 T L (znx T L q) := t1.keep (by rw [a1 1325 (by decide) (by decide), f1 1325 (by decide)]) (fun j j0 j1 => a2 j (by omega))
      have F2 : zFk μ μ2 := ⟨fun b h1 h2 => a1 b (by omega) h1, fun j h1 h2 h3 h4 h5 => by rw [a2 j (by omega), f2 j (by omega)]⟩
      have b2 : μ2 1320 13 = 0 := by rw [a2 13 (by decide), f2 13 (by decide)]; exact hb
      have c2' : μ2 1320 16 = c := by rw [a2 16 (by decide), f2 16 (by decide)]; exact hc
      have l2 : μ2 1320 19 = lv := by rw [a2 19 (by decide), f2 19 (by decide)]; exact hl
      have x12 : μ2 1320 12 = μ 1320 12 := by rw [a2 12 (by decide), f2 12 (by decide)]
      obtain ⟨q1, lv1, r, e1⟩ := zPp_get (T := T) (L := L) (q := znx T L q) (lv := lv) (md := 3) (dp := 0) (a := zK0) (Or.inl rfl) nq.1 hL4 l50
      have far := zPp_far _ _ _ _ _ _ _ _ _ (by decide) nq.1 l50 e1
      refine k_mExpr (Or.inl ⟨rfl, rfl⟩) (by omega) t2 b2 c2' (by omega) l2 l50 e1 (fun hr ν4 f4 n13 n12' _ => ?_) (fun w hr ν4 c1 D f4 t4 n13 n16 n19 hc1 hc2 hcode hG hD1 hD2 hT => ?_)
      · refine ⟨by omega, by omega, fun _ => ⟨by omega, h0 q1 lv1 _ (Or.inr ⟨by omega, ?_⟩) ((((F2.trans f4.k).up (by simp)).up (by simp)).up (by simp)) ?_ ?_⟩, fun y => ?_⟩
        · rw [hr] at e1; exact zPk_f1 g e1
        · rw [zup_ne (by decide), zup_ne (by decide), zup_ne (by decide)]; exact n13
        · rw [zup_ne (by decide), zup_ne (by decide), zup_ne (by decide)]; exact n12'
        · rw [zup_ne (by decide), zup_ne (by decide), n13] at y; exact absurd y (by decide)
      subst hr
      rw [n16]
      have w16 : zup ν4 1326 (8 * (n : Int) + 4) c1 1320 16 = c1 := by rw [zup_ne (by decide)]; exact n16
      rw [w16]
      have k1 : ∀ b : Int, b ≠ 1326 → (zup (zup ν4 1326 (8 * (n : Int) + 4) c1) 1326 (8 * (n : Int) + 5) c1) b = ν4 b := fun b hb => by rw [zup_ne hb, zup_ne hb]
      have k2 : (zup (zup ν4 1326 (8 * (n : Int) + 4) c1) 1326 (8 * (n : Int) + 5) c1) 1326 (8 * (n : Int) + 4) = c1 := by rw [zup_miss (by omega), zup_hit]
      have k3 : (zup (zup ν4 1326 (8 * (n : Int) + 4) c1) 1326 (8 * (n : Int) + 5) c1) 1326 (8 * (n : Int) + 5) = c1 := zup_hit
      have k4 : ∀ i : Int, i < 8 * n + 4 → (zup (zup ν4 1326 (8 * (n : Int) + 4) c1) 1326 (8 * (n : Int) + 5) c1) 1326 i = μ2 1326 i := fun i hi => by rw [zup_miss (by omega), zup_miss (by omega), f4.1 1326 (by decide) (by decide) (by decide) (by decide) (by decide)]
      have F4 : zFk μ (zup (zup ν4 1326 (8 * (n : Int) + 4) c1) 1326 (8 * (n : Int) + 5) c1) := ((F2.trans f4.w.k).up (by simp)).up (by simp)
      generalize zup (zup ν4 1326 (8 * (n : Int) + 4) c1) 1326 (8 * (n : Int) + 5) c1 = μ4 at *
      have t4' : zTm μ4 T L q1 := t4.keep (k1 1325 (by decide)) (fun j _ _ => by rw [k1 1320 (by decide)])
      have x12b : μ4 1320 12 = μ 1320 12 := by rw [k1 1320 (by decide), f4.2 12 (by decide) (by decide) (by decide) (by decide) (by decide)]; exact x12
      have x14 : μ4 1320 14 = ((n + 1 : Nat) : Int) := by rw [k1 1320 (by decide), f4.2 14 (by decide) (by decide) (by decide) (by decide) (by decide)]; exact a3
      have q1L := t4.2.2.2.2.2.2.1
      have hD : D ≤ 64 := by have := far.2.2.2.1; omega
      -- the end of the clause
      have fin : ∀ (ν : zM) (q' lv' c2 : Nat) (wt : zSem), zPk T L q lv = (q', lv', some (x, w, wt)) → zFk μ ν → ν 1320 12 = μ 1320 12 → zTm ν T L q' → ν 1320 13 = 0 → ν 1320 14 = ((n + 1 : Nat) : Int) → ν 1320 19 = lv' → lv' ≤ 50 → (∀ i : Int, i < c1 → ν 1327 i = μ4 1327 i ∧ ν 1328 i = μ4 1328 i) → ν 1326 = μ4 1326 → ν 1320 16 = c2 → c1 ≤ c2 → c2 ≤ q' → zGd 8 wt → (c1 < c2 → ∃ D : Nat, D ≤ 64 ∧ zTl (fun i => zMk (ν 1327 i)) (fun i => zMa (ν 1327 i) (ν 1328 i)) c1 c2 wt D) → (c2 ≤ c1 → wt = zK0) → Q (zup ν 1326 (8 * (n : Int) + 6) (ν 1320 16)) := fun ν q' lv' c2 wt ek f e12 t e13 e14' e19 l50' cc cn e16 hs1 hs2 hG' hT' hz => by
        rw [e16]
        refine h1 q' lv' x w wt _ (by omega) ek ⟨f.up (by simp), by rw [zup_ne (by decide)]; exact e12, t.keep (zup_ne (by decide)) (fun j _ _ => by rw [zup_ne (by decide)]), by rw [zup_ne (by decide)]; exact e13, by rw [zup_ne (by decide)]; exact e14', by rw [zup_ne (by decide)]; exact e19, l50', fun i hi => ?_, fun i hi => ?_, hG, hG', c1, c2, by rw [zup_ne (by decide)]; exact e16, ?_, ?_, ?_, ?_, ?_, hc1, hs1, hs2, ⟨D, hD, ?_⟩, ?_, hz⟩
        · rw [zup_ne (by decide), zup_ne (by decide), (cc i (by omega)).1, (cc i (by omega)).2, k1 1327 (by decide), k1 1328 (by decide), (hcode i hi).1, (hcode i hi).2, a1 1327 (by decide) (by decide), a1 1328 (by decide) (by decide)]
          exact ⟨rfl, rfl⟩
        · rw [zup_miss (by omega), cn, k4 i (by omega)]; exact a6 i hi
        · rw [zup_miss (by omega), cn, k4 _ (by omega)]; exact a4
        · rw [zup_miss (by omega), cn, k4 _ (by omega)]; exact a5
        · rw [zup_miss (by omega), cn]; exact k2
        · rw [zup_miss (by omega), cn]; exact k3
        · exact zup_hit
        · rw [zup_ne (by decide), zup_ne (by decide)]
          refine hT.keep (fun i _ hi => ?_)
          show zMk (ν 1327 i) = zMk (ν4 1327 i) ∧ zMa (ν 1327 i) (ν 1328 i) = zMa (ν4 1327 i) (ν4 1328 i)
          rw [(cc i hi).1, (cc i hi).2, k1 1327 (by decide), k1 1328 (by decide)]
          exact ⟨rfl, rfl⟩
        · rw [zup_ne (by decide), zup_ne (by decide)]; exact hT'
      refine ⟨by omega, by omega, fun y => absurd (by rw [k1 1320 (by decide)]; exact n13) y, fun _ => ?_⟩
      refine k_M_isWord t4' (fun g2 => ⟨fun y => absurd y (by decide), fun _ => ?_⟩) (fun g2 => ⟨fun _ => ⟨by omega, ?_⟩, fun y => absurd rfl y⟩)
      · have g2' : zsr T L q1 = 1 ∧ zwo T L q1 = 294 := g2
        have nq1 := znx_bd (T := T) q1L
        have nq3 := nq1.2.2 (by have := g2'.1; omega)
        refine k_M_next (by omega) t4' (fun ν5 n1 n2 n3 => ?_)
        obtain ⟨q2, lv2, r2, e2⟩ := zPp_get (T := T) (L := L) (q := znx T L q1) (lv := lv1) (md := 8) (dp := 0) (a := zK0) (Or.inr rfl) nq1.1 hL4 far.2.2.2.1
        have far2 := zPp_far _ _ _ _ _ _ _ _ _ (by decide) nq1.1 far.2.2.2.1 e2
        have F5 : zFk μ ν5 := F4.trans ⟨fun b h1 _ => n1 b h1, fun j h1 _ _ _ _ => n2 j (by omega)⟩
        refine k_mExpr (Or.inr ⟨rfl, rfl⟩) (by omega) n3 (by rw [n2 13 (by decide), k1 1320 (by decide)]; exact n13) (c := c1) (by rw [n2 16 (by decide), k1 1320 (by decide)]; exact n16) (by omega) (by rw [n2 19 (by decide), k1 1320 (by decide)]; exact n19) far.2.2.2.1 e2 (fun hr ν6 f6 m13 m12 _ => ⟨by omega, h0 q2 lv2 _ (Or.inr ⟨by omega, ?_⟩) ((F5.trans f6.k).up (by simp)) ?_ ?_⟩) (fun w2 hr ν6 c2 D2 f6 t6 m13 m16 m19 mc1 mc2 mcode mG mD1 mD2 mT => ⟨by omega, ?_⟩)
        · rw [hr] at e2; exact zPk_f2 g e1 g2' e2
        · rw [zup_ne (by decide)]; exact m13
        · rw [zup_ne (by decide)]; exact m12
        · subst hr
          refine fin ν6 q2 lv2 c2 w2 (by rw [eg]; exact zPk_s2 g e1 g2' e2) (F5.trans f6.w.k) ?_ t6 m13 ?_ m19 far2.2.2.2.1 (fun i hi => ?_) ?_ m16 (by omega) mc2 mG (fun _ => ⟨D2, by have := far2.2.2.2.1; omega, mT⟩) (fun y => by omega)
          · rw [f6.2 12 (by decide) (by decide) (by decide) (by decide) (by decide), n2 12 (by decide)]; exact x12b
          · rw [f6.2 14 (by decide) (by decide) (by decide) (by decide) (by decide), n2 14 (by decide)]; exact x14
          · rw [(mcode i hi).1, (mcode i hi).2, n1 1327 (by decide), n1 1328 (by decide)]; exact ⟨rfl, rfl⟩
          · rw [f6.1 1326 (by decide) (by decide) (by decide) (by decide) (by decide), n1 1326 (by decide)]
      · exact fin μ4 q1 lv1 c1 zK0 (by rw [eg]; exact zPk_s1 g e1 g2) F4 x12b t4' (by rw [k1 1320 (by decide)]; exact n13) x14 (by rw [k1 1320 (by decide)]; exact n19) far.2.2.2.1 (fun i _ => ⟨rfl, rfl⟩) rfl (by rw [k1 1320 (by decide)]; exact n16) (by omega) (by omega) (fun F v _ ev => by cases ev; exact ⟨fun y => by omega, fun _ => Or.inr rfl⟩) (fun y => by omega) (fun _ => rfl)
    have lp : ∀ m i : Nat, i + m = 8 → ∀ ρ : zM, (∀ b : Int, b ≠ 1326 → ρ b = ν1 b) → (∀ i : Int, i < 8 * n → ρ 1326 i = ν1 1326 i) → zE X true l d 0 0 y_M_readClause 58 [some (13, 0, 1320), some (0, 0, x), some (0, 0, 8 * (n : Int)), some (0, 0, (i : Int))] [] ρ (zrn Q) := by
      intro m
      induction m with
      | zero =>
        intro i hi ρ r1 r2
        obtain rfl : i = 8 := by omega
        exact go ρ r1 r2
      | succ m ih =>
        intro i hi ρ r1 r2
        refine s_M_readClause_58 (a0 := 1320) (d1 := d - 1) (by omega) ⟨fun y => absurd y (by omega), fun _ => ?_⟩
        rw [zw_of (by omega) (by omega), zw_of (by omega) (by omega)]
        exact ⟨by omega, ih (i + 1) (by omega) _ (fun b hb => by rw [zup_ne (show b ≠ 1320 + 6 from hb)]; exact r1 b hb) (fun j hj => by rw [zup_miss (by omega)]; exact r2 j hj)⟩
    exact lp 8 0 (by omega) ν1 (fun _ _ => rfl) (fun _ _ => rfl)
  refine c_M_readClause (a0 := 1320) (d1 := d - 1) (by omega) (k_M_isWord ht (fun g => ⟨fun _ => ?_, fun z => absurd z (by decide)⟩) (fun g => ⟨fun z => absurd rfl z, fun _ => ?_⟩))
  · have g' : zsr T L q = 1 ∧ zwo T L q = 239 := g
    exact main 1 (Or.inr rfl) ⟨g'.1, Or.inl g'.2⟩ (by rw [if_pos g'.2])
  · have g' : ¬ (zsr T L q = 1 ∧ zwo T L q = 239) := g
    refine k_M_isWord ht (fun g2 => ⟨fun z => absurd z (by decide), fun _ => ?_⟩) (fun g2 => ⟨fun _ => ?_, fun z => absurd rfl z⟩)
    · have g3 : zsr T L q = 1 ∧ zwo T L q = 277892 := g2
      exact main 0 (Or.inl rfl) ⟨g3.1, Or.inr g3.2⟩ (by rw [if_neg (fun z => g' ⟨g3.1, z⟩)])
    · have g3 : ¬ (zsr T L q = 1 ∧ zwo T L q = 277892) := g2
      refine k_M_must (by omega) ht hb (fun e => absurd rfl e) (fun _ => ⟨fun y => ?_, fun _ => bad (Or.inr (fun z => ?_))⟩)
      · rw [b13] at y; exact absurd y (by decide)
      · rcases z.2 with y | y
        · exact g' ⟨z.1, y⟩
        · exact g3 ⟨z.1, y⟩
end

/-! what a LAW COUNTS: the reference -/
def zstv (ρ : Int → Int) (P : Int) (law : Option zLaw) : Int := zsty (fun p g => zcha (zMd ρ P (ρ (10 + P)) 0 0) law (-1) p g 0 0) (ρ (10 + P)).toNat (ρ 2).toNat
def zwhv (ρ : Int → Int) (P : Int) : Int := 100 ^ ((ρ (10 + P)).toNat * (ρ 2).toNat)
theorem zstv_bd {ρ : Int → Int} {P : Int} {law : Option zLaw} : 0 ≤ zstv ρ P law ∧ zstv ρ P law ≤ zwhv ρ P := zsty_bd (fun _ _ => zcha_bd) _ _
/-- what each trial, each supposed one, brings -/
def zfac (ρ : Int → Int) (law : Option zLaw) (hid hAny : Int) (t : Nat) : Int := if (t : Int) < ρ 4 then (if ρ (216 + 2 * t + 1) = 0 then zstv ρ (ρ (216 + 2 * t)) law else zwhv ρ (ρ (216 + 2 * t)) - zstv ρ (ρ (216 + 2 * t)) law) else (if (t : Int) - ρ 4 < hAny then zwhv ρ hid - zstv ρ hid law else zstv ρ hid law)
def zcou (ρ : Int → Int) (law : Option zLaw) (wg hid hAny : Int) : Nat → Int
  | 0 => wg
  | t + 1 => zcou ρ law wg hid hAny t * zfac ρ law hid hAny t
theorem zcou_s {ρ : Int → Int} {law : Option zLaw} {wg hid hAny : Int} {t : Nat} : zcou ρ law wg hid hAny (t + 1) = zcou ρ law wg hid hAny t * zfac ρ law hid hAny t := rfl
theorem zwhv_bd {ρ : Int → Int} {P : Int} (h : zRB ρ) (P0 : 0 ≤ P) (P1 : P < 6) : 0 < zwhv ρ P ∧ zwhv ρ P ≤ 100 ^ 60 := by
  have a := h.2.2.2.2.2.2.2.1 (10 + P) (by omega) (by omega)
  have b := h.2.2.1
  exact ⟨Int.pow_pos (by decide), zhm_mono (zmn (by omega) (by omega))⟩
theorem ztrial {ρ : Int → Int} (h : zRB ρ) {t : Nat} (ht : (t : Int) < ρ 4) : (0 ≤ ρ (216 + 2 * t) ∧ ρ (216 + 2 * t) ≤ 5) ∧ (0 ≤ ρ (216 + 2 * t + 1) ∧ ρ (216 + 2 * t + 1) ≤ 1) := by
  obtain ⟨_, _, _, _, _, _, _, _, _, _, _, _, _, _, _, h15, _⟩ := h
  have a := h15 (216 + 2 * t) (by omega) (by omega)
  have b := h15 (216 + 2 * t + 1) (by omega) (by omega)
  rw [if_pos (by omega)] at a
  rw [if_neg (by omega)] at b
  exact ⟨a, b⟩
theorem zfac_bd {ρ : Int → Int} {law : Option zLaw} {hid hAny : Int} (h : zRB ρ) (t : Nat) (hh : (t : Int) < ρ 4 ∨ (0 ≤ hid ∧ hid < 6)) : 0 ≤ zfac ρ law hid hAny t ∧ zfac ρ law hid hAny t ≤ 100 ^ 60 := by
  unfold zfac
  split
  · rename_i ht
    have tr := ztrial h ht
    have b := zstv_bd (ρ := ρ) (P := ρ (216 + 2 * t)) (law := law)
    have w := zwhv_bd h tr.1.1 (show ρ (216 + 2 * t) < 6 by omega)
    split <;> omega
  · have b := zstv_bd (ρ := ρ) (P := hid) (law := law)
    have w := zwhv_bd (P := hid) h (by omega) (by omega)
    split <;> omega
theorem zcou_bd {ρ : Int → Int} {law : Option zLaw} {wg hid hAny : Int} (h : zRB ρ) (w0 : 0 ≤ wg) (w1 : wg ≤ 100) : ∀ t : Nat, ((t : Int) ≤ ρ 4 ∨ (0 ≤ hid ∧ hid < 6)) → 0 ≤ zcou ρ law wg hid hAny t ∧ zcou ρ law wg hid hAny t ≤ 100 ^ (60 * t + 1)
  | 0, _ => by unfold zcou; omega
  | t + 1, hh => by
    have a := zcou_bd (law := law) (hAny := hAny) (hid := hid) h w0 w1 t (by omega)
    have b := zfac_bd (law := law) (hAny := hAny) (hid := hid) h t (by omega)
    have c := zmulb a.1 a.2 b.1 b.2
    rw [← Int.pow_add, show 60 * t + 1 + 60 = 60 * (t + 1) + 1 by omega] at c
    exact c
theorem zhp {n : Nat} (h : n ≤ 780) : (100 : Int) ^ n < zpw 174 := by
  rw [zhun, zpw_ten]
  have := zten_mono (m := 2 * n) (n := 1565) (by omega)
  have e : (10 : Int) ^ (9 * 174) = 10 ^ 1565 * 10 := by rw [← Int.pow_succ]
  have := zten_pos 1565
  omega
section
variable {X : zX} {l : Launch} {d : Nat} {μ : zM}
theorem k_findCount {n hid hAny : Int} {hM : Nat} {law : Option zLaw} {Q : zM → Prop} (hd : 5 ≤ d) (hR : zRB (μ 1322)) (n0 : 0 ≤ n) (n1 : n < μ 1322 3) (hl : ∀ ν : zM, ν 1322 = μ 1322 → ν 1320 32 = n → zML ν law) (e52 : μ 1320 52 = hid) (hh : hM = 0 ∨ (0 ≤ hid ∧ hid < 6)) (e53 : μ 1320 53 = hM) (hM4 : hM ≤ 4) (e54 : μ 1320 54 = hAny)
    (hQ : ∀ ν, (∀ b : Int, b ≠ 1320 → ¬ (1331 ≤ b ∧ b ≤ 1335) → b ≠ 1344 → b ≠ 1346 → ν b = μ b) → (∀ j : Int, j ≠ 24 → j ≠ 27 → j ≠ 28 → j ≠ 29 → j ≠ 30 → j ≠ 31 → j ≠ 32 → j ≠ 33 → j ≠ 34 → ν 1320 j = μ 1320 j) → zRn ν 1344 180 (zcou (μ 1322) law (μ 1322 (212 + n)) hid hAny ((μ 1322 4).toNat + hM)) → Q ν) : zCv X true l d 0 0 y_M_findCount [(13, 0, 1320), (0, 0, n)] μ Q := by
  have r3 := hR.2.2.2.1
  have r4 := hR.2.2.2.2.1
  have g12 := hR.2.2.1
  obtain ⟨_, _, _, _, _, _, _, r10, _, _, _, _, _, _, r14, _⟩ := id hR
  have wb := r14 (212 + n) (by omega) (by omega)
  refine c_M_findCount (a0 := 1320) (d1 := 4) (by omega) ?_
  simp only [Int.reduceAdd]
  rw [zw_of (x := 212 + n) (by omega) (by omega)]
  refine ⟨by omega, k_M_setTo (c := 1344) (n := 180) (by omega) (by omega) (by omega) (by omega) (by omega) (fun ν1 q1 q2 => ?_)⟩
  have loop : ∀ k t : Nat, t + k = (μ 1322 4).toNat + hM → ∀ ν : zM, (∀ b : Int, b ≠ 1320 → ¬ (1331 ≤ b ∧ b ≤ 1335) → b ≠ 1344 → b ≠ 1346 → ν b = μ b) → (∀ j : Int, j ≠ 24 → j ≠ 27 → j ≠ 28 → j ≠ 29 → j ≠ 30 → j ≠ 31 → j ≠ 32 → j ≠ 33 → j ≠ 34 → ν 1320 j = μ 1320 j) → zRn ν 1344 180 (zcou (μ 1322) law (μ 1322 (212 + n)) hid hAny t) → zE X true l d 0 0 y_M_findCount 23 [some (13, 0, 1320), some (0, 0, n), some (0, 0, (t : Int)), none, none] [] ν (zrn Q) := by
    intro k
    induction k with
    | zero =>
      intro t ht ν a b e
      have e22 := a 1322 (by decide) (by decide) (by decide) (by decide)
      have f53 : ν 1320 53 = hM := by rw [b 53 (by decide) (by decide) (by decide) (by decide) (by decide) (by decide) (by decide) (by decide) (by decide)]; exact e53
      refine s_M_findCount_23 (a0 := 1320) (d1 := 4) (by omega) ⟨fun _ => hQ ν a b (by rw [← ht]; exact e), fun c => absurd ?_ c⟩
      simp only [Int.reduceAdd]
      rw [e22, f53, zw_of (by omega) (by omega)]
      omega
    | succ k ih =>
      intro t ht ν a b e
      have e22 := a 1322 (by decide) (by decide) (by decide) (by decide)
      have f52 : ν 1320 52 = hid := by rw [b 52 (by decide) (by decide) (by decide) (by decide) (by decide) (by decide) (by decide) (by decide) (by decide)]; exact e52
      have f53 : ν 1320 53 = hM := by rw [b 53 (by decide) (by decide) (by decide) (by decide) (by decide) (by decide) (by decide) (by decide) (by decide)]; exact e53
      have f54 : ν 1320 54 = hAny := by rw [b 54 (by decide) (by decide) (by decide) (by decide) (by decide) (by decide) (by decide) (by decide) (by decide)]; exact e54
      have cb := zcou_bd (law := law) (hAny := hAny) (hid := hid) hR (show 0 ≤ μ 1322 (212 + n) by omega) (by omega) t (by omega)
      have wt : zw (216 + zw (2 * (t : Int))) = 216 + 2 * t := by rw [zw_of (x := 2 * (t : Int)) (by omega) (by omega), zw_of (by omega) (by omega)]
      have wt1 : zw (216 + 2 * (t : Int) + 1) = 216 + 2 * t + 1 := zw_of (by omega) (by omega)
      have aft : ∀ (ν8 : zM) (U : Int), (∀ b : Int, b ≠ 1320 → ¬ (1331 ≤ b ∧ b ≤ 1335) → b ≠ 1344 → b ≠ 1346 → ν8 b = μ b) → (∀ j : Int, j ≠ 24 → j ≠ 27 → j ≠ 28 → j ≠ 29 → j ≠ 30 → j ≠ 31 → j ≠ 32 → j ≠ 33 → j ≠ 34 → ν8 1320 j = μ 1320 j) → zRn ν8 1344 180 (zcou (μ 1322) law (μ 1322 (212 + n)) hid hAny t) → zRn ν8 1333 16 U → U = zfac (μ 1322) law hid hAny t → zCv X true l 4 0 0 y_M_timesUpper [(13, 0, 1320)] ν8 (fun ν12 => zE X true l d 0 0 y_M_findCount 23 [some (13, 0, 1320), some (0, 0, n), some (0, 0, zw ((t : Int) + 1)), none, none] [] ν12 (zrn Q)) := fun ν8 U a8 b8 e8 u8 hU => by
        have fb := zfac_bd (law := law) (hAny := hAny) (hid := hid) hR t (by omega)
        have lim : zcou (μ 1322) law (μ 1322 (212 + n)) hid hAny t * U < zpw 180 := by
          rw [hU]
          have c := zmulb cb.1 cb.2 fb.1 fb.2
          rw [← Int.pow_add] at c
          have := zhp (n := 60 * t + 1 + 60) (by omega)
          have := zpw_mono (m := 174) (n := 180) (by omega)
          omega
        refine k_timesUpper e8 u8 lim (fun ν12 r1 r2 => ?_)
        rw [zw_of (by omega) (by omega)]
        refine ih (t + 1) (by omega) ν12 (fun b b0 b1 b2 b3 => by rw [r1 b b2 b3]; exact a8 b b0 b1 b2 b3) (fun j j0 j1 j2 j3 j4 j5 j6 j7 j8 => by rw [r1 1320 (by decide) (by decide)]; exact b8 j j0 j1 j2 j3 j4 j5 j6 j7 j8) ?_
        rw [zcou_s, ← hU]
        exact r2
      -- the look at plan P
      have look : ∀ (P : Int) (K : zM → Prop), 0 ≤ P → P < 6 → (∀ ν8 : zM, (∀ b : Int, b ≠ 1320 → ¬ (1331 ≤ b ∧ b ≤ 1335) → b ≠ 1344 → b ≠ 1346 → ν8 b = μ b) → (∀ j : Int, j ≠ 24 → j ≠ 27 → j ≠ 28 → j ≠ 29 → j ≠ 30 → j ≠ 31 → j ≠ 32 → j ≠ 33 → j ≠ 34 → ν8 1320 j = μ 1320 j) → zRn ν8 1344 180 (zcou (μ 1322) law (μ 1322 (212 + n)) hid hAny t) → zRn ν8 1334 16 (zwhv (μ 1322) P) → zRn ν8 1333 16 (zwhv (μ 1322) P - zstv (μ 1322) P law) → K ν8) → zCv X true l 4 0 0 y_M_lookAt [(13, 0, 1320), (0, 0, P), (0, 0, ν 1322 (10 + P)), (0, 0, n)] ν (fun ν6 => zCv X true l 4 0 0 y_M_findAny [(13, 0, 1320), (0, 0, ν6 1322 2)] ν6 K) := fun P K P0 P1 hK => by
        have m12 := r10 (10 + P) (by omega) (by omega)
        refine c_M_lookAt ?_
        generalize hμ2 : zup (zup (zup (zup (zup ν 1320 30 P) 1320 31 (ν 1322 (10 + P))) 1320 32 n) 1320 33 (-1)) 1320 34 0 = μ2
        have q30 : μ2 1320 30 = P := by rw [← hμ2]; simp [zup]
        have q31 : μ2 1320 31 = ((μ 1322 (10 + P)).toNat : Int) := by
          have : μ2 1320 31 = ν 1322 (10 + P) := by rw [← hμ2]; simp [zup]
          rw [this, e22]; omega
        have q32 : μ2 1320 32 = n := by rw [← hμ2]; simp [zup]
        have q33 : μ2 1320 33 = -1 := by rw [← hμ2]; simp [zup]
        have q34 : μ2 1320 34 = 0 := by rw [← hμ2]; simp [zup]
        have q0 : ∀ b : Int, b ≠ 1320 → μ2 b = ν b := fun b hb => by rw [← hμ2, zup_ne hb, zup_ne hb, zup_ne hb, zup_ne hb, zup_ne hb]
        have qj : ∀ j : Int, j ≠ 30 → j ≠ 31 → j ≠ 32 → j ≠ 33 → j ≠ 34 → μ2 1320 j = ν 1320 j := fun j j1 j2 j3 j4 j5 => by rw [← hμ2, zup_miss (by omega), zup_miss (by omega), zup_miss (by omega), zup_miss (by omega), zup_miss (by omega)]
        have r22 : μ2 1322 = μ 1322 := by rw [q0 _ (by decide), e22]
        have e2 : μ2 1322 2 = ((μ 1322 2).toNat : Int) := by rw [r22]; omega
        rw [e2]
        refine k_findAny (law := law) (by omega) (by rw [r22]; exact hR) q30 P0 P1 q31 (by omega) q34 (hl μ2 r22 q32) (by omega) (fun ν8 t1 t2 t3 t4 => ?_)
        rw [q33, r22, show ((μ 1322 (10 + P)).toNat : Int) = μ 1322 (10 + P) by omega] at t4
        exact hK ν8 (fun b b0 b1 b2 b3 => by rw [t1 b b0 (by omega), q0 b b0]; exact a b b0 b1 b2 b3) (fun j j0 j1 j2 j3 j4 j5 j6 j7 j8 => by rw [t2 j j0 j1 j2 j3, qj j j4 j5 j6 j7 j8]; exact b j j0 j1 j2 j3 j4 j5 j6 j7 j8) (e.keep (by rw [t1 1344 (by decide) (by decide), q0 1344 (by decide)])) t3 t4
      have trn : ∀ (P : Int) (ν8 : zM), 0 ≤ P → P < 6 → (∀ b : Int, b ≠ 1320 → ¬ (1331 ≤ b ∧ b ≤ 1335) → b ≠ 1344 → b ≠ 1346 → ν8 b = μ b) → (∀ j : Int, j ≠ 24 → j ≠ 27 → j ≠ 28 → j ≠ 29 → j ≠ 30 → j ≠ 31 → j ≠ 32 → j ≠ 33 → j ≠ 34 → ν8 1320 j = μ 1320 j) → zRn ν8 1344 180 (zcou (μ 1322) law (μ 1322 (212 + n)) hid hAny t) → zRn ν8 1334 16 (zwhv (μ 1322) P) → zRn ν8 1333 16 (zwhv (μ 1322) P - zstv (μ 1322) P law) → zstv (μ 1322) P law = zfac (μ 1322) law hid hAny t → zCv X true l 4 0 0 y_M_turn [(15, 16, 1333), (15, 16, 1334)] ν8 (fun ν14 => zCv X true l 4 0 0 y_M_timesUpper [(13, 0, 1320)] ν14 (fun ν16 => zE X true l d 0 0 y_M_findCount 23 [some (13, 0, 1320), some (0, 0, n), some (0, 0, zw ((t : Int) + 1)), none, none] [] ν16 (zrn Q))) := fun P ν8 P0 P1 a8 b8 e8 w8 u8 hU => by
        have sb := zstv_bd (ρ := μ 1322) (P := P) (law := law)
        refine k_M_turn (c := 1333) (c1 := 1334) (by omega) (by omega) (by decide) u8 w8 (by omega) (fun ν14 r1 r2 => ?_)
        rw [show zwhv (μ 1322) P - (zwhv (μ 1322) P - zstv (μ 1322) P law) = zstv (μ 1322) P law by omega] at r2
        exact aft ν14 _ (fun b b0 b1 b2 b3 => by rw [r1 b (fun e => b1 (by rw [e]; decide))]; exact a8 b b0 b1 b2 b3) (fun j j0 j1 j2 j3 j4 j5 j6 j7 j8 => by rw [r1 1320 (by decide)]; exact b8 j j0 j1 j2 j3 j4 j5 j6 j7 j8) (e8.keep (r1 1344 (by decide))) r2 hU
      refine s_M_findCount_23 (a0 := 1320) (d1 := 4) (by omega) ⟨fun c => absurd c ?_, fun _ => ?_⟩
      · simp only [Int.reduceAdd]
        rw [e22, f53, zw_of (by omega) (by omega)]
        omega
      · by_cases c : (t : Int) < μ 1322 4
        · have tr := ztrial hR c
          have ei : (if ν 1322 4 ≤ (t : Int) then (0 : Int) else 1) = 1 := if_neg (by rw [e22]; omega)
          simp only [Int.reduceAdd, ei, wt, wt1, show ¬ ((1 : Int) = 0) by decide, if_false, false_implies, true_and, forall_const, not_false_eq_true]
          have eP : ν 1322 (216 + 2 * (t : Int)) = μ 1322 (216 + 2 * t) := by rw [e22]
          rw [eP, zw_of (x := 10 + μ 1322 (216 + 2 * (t : Int))) (by omega) (by omega)]
          refine ⟨by omega, by omega, look (μ 1322 (216 + 2 * t)) _ tr.1.1 (by omega) (fun ν8 a8 b8 e8 w8 u8 => ?_)⟩
          have f22 := a8 1322 (by decide) (by decide) (by decide) (by decide)
          rw [f22]
          refine ⟨by omega, fun z => aft ν8 _ a8 b8 e8 u8 ?_, fun z => trn _ ν8 tr.1.1 (by omega) a8 b8 e8 w8 u8 ?_⟩
          · unfold zfac
            rw [if_pos c, if_neg z]
          · unfold zfac
            rw [if_pos c, if_pos z]
        · have h0 : 0 ≤ hid := by omega
          have h1 : hid < 6 := by omega
          have ei : (if ν 1322 4 ≤ (t : Int) then (0 : Int) else 1) = 0 := if_pos (by rw [e22]; omega)
          simp only [Int.reduceAdd, ei, if_true, true_and, forall_const, not_true_eq_false, false_implies, and_true]
          rw [f52, zw_of (x := 10 + hid) (by omega) (by omega)]
          refine ⟨by omega, look hid _ h0 h1 (fun ν8 a8 b8 e8 w8 u8 => ?_)⟩
          have f22 := a8 1322 (by decide) (by decide) (by decide) (by decide)
          have g54 : ν8 1320 54 = hAny := by rw [b8 54 (by decide) (by decide) (by decide) (by decide) (by decide) (by decide) (by decide) (by decide) (by decide)]; exact e54
          rw [f22, g54, zw_of (x := (t : Int) - μ 1322 4) (by omega) (by omega)]
          refine ⟨fun z => aft ν8 _ a8 b8 e8 u8 ?_, fun z => trn _ ν8 h0 h1 a8 b8 e8 w8 u8 ?_⟩
          · unfold zfac
            rw [if_neg c, if_pos z]
          · unfold zfac
            rw [if_neg c, if_neg z]
  exact loop ((μ 1322 4).toNat + hM) 0 (by omega) ν1 (fun b b0 b1 b2 _ => q1 b b2) (fun j _ _ _ _ _ _ _ _ _ => by rw [q1 1320 (by decide)]) q2
end

/-! the SCALES of the class -/
def zKp (μ ν : zM) : Prop := (∀ b : Int, ¬ (104 ≤ b ∧ b < 1148) → ν b = μ b) ∧ zBigs ν
theorem zKp.cm {μ ν : zM} (k : zKp μ ν) : zCm μ ν := ⟨fun b b0 b1 => k.1 b (by omega), k.1 _ (by decide), fun b b0 b1 => k.1 b (by omega), fun b b0 b1 => k.1 b (by omega), k.1 _ (by decide), by rw [k.1 1320 (by decide)]; exact ⟨rfl, rfl, rfl, rfl⟩, k.2⟩
theorem zKp.trans {μ ν ρ : zM} (h : zKp μ ν) (k : zKp ν ρ) : zKp μ ρ := ⟨fun b hb => (k.1 b hb).trans (h.1 b hb), k.2⟩
/-- one of the scales' numbers has changed -/
theorem zBigs.sc {μ ν : zM} {a : Int} {L : Nat} (hB : zBigs μ) (hk : ∀ b : Int, b ≠ a → b ≠ a + 1 → ν b = μ b) (h : zBig ν a L) (ha : 1110 ≤ a ∧ a < 1148 ∧ a % 2 = 0) (hL : (1116 ≤ a ∧ 4 ≤ (a - 1116) % 8) ∧ L = 15 ∨ ¬ (1116 ≤ a ∧ 4 ≤ (a - 1116) % 8) ∧ L = 170) : zBigs ν := by
  have one : ∀ (p : Int) (M : Nat), zBig μ p M → p % 2 = 0 → (p = a → L = M) → zBig ν p M := fun p M hp h2 he => by
    by_cases e : p = a
    · rw [e, ← he e]; exact h
    · exact hp.keep (hk _ e (by omega)) (hk _ (by omega) (by omega))
  obtain ⟨⟨b1, b2, b3, b4, b5, b6⟩, b7⟩ := hB
  refine ⟨⟨fun s a b => ⟨one _ _ (b1 s a b).1 (by omega) (by omega), one _ _ (b1 s a b).2 (by omega) (by omega)⟩, ⟨one _ _ b2.1 (by omega) (by omega), one _ _ b2.2.1 (by omega) (by omega), one _ _ b2.2.2.1 (by omega) (by omega), one _ _ b2.2.2.2.1 (by omega) (by omega), one _ _ b2.2.2.2.2 (by omega) (by omega)⟩, fun n a b => ⟨one _ _ (b3 n a b).1 (by omega) (by omega), one _ _ (b3 n a b).2.1 (by omega) (by omega), one _ _ (b3 n a b).2.2.1 (by omega) (by omega), one _ _ (b3 n a b).2.2.2 (by omega) (by omega)⟩, one _ _ b4 (by omega) (by omega), one _ _ b5 (by omega) (by omega), one _ _ b6 (by omega) (by omega)⟩, fun k hk' => ?_⟩
  rw [hk _ (by omega) (by omega), hk _ (by omega) (by omega), hk _ (by omega) (by omega)]
  exact b7 k hk'
theorem zhp2 {n : Nat} (h : n ≤ 690) : (100 : Int) ^ n < zpw 155 := by
  rw [zhun, zpw_ten]
  have := zten_mono (m := 2 * n) (n := 1394) (by omega)
  have e : (10 : Int) ^ (9 * 155) = 10 ^ 1394 * 10 := by rw [← Int.pow_succ]
  have := zten_pos 1394
  omega
theorem zcou_free {ρ : Int → Int} {law : Option zLaw} {wg hid hAny : Int} : ∀ t : Nat, (t : Int) ≤ ρ 4 → zcou ρ law wg hid hAny t = zcou ρ law wg 0 0 t
  | 0, _ => rfl
  | t + 1, h => by
    rw [zcou_s, zcou_s, zcou_free t (by omega)]
    unfold zfac
    have e : (t : Int) < ρ 4 := by omega
    rw [if_pos e, if_pos e]
section
variable {X : zX} {l : Launch} {d : Nat} {μ : zM}
theorem k_multiply {a1 a2 v1 v2 : Int} {Q : zM → Prop} (hd : 3 ≤ d) (h : zBig μ 1110 170) (h1 : zBv μ a1 170 v1) (h2 : zBv μ a2 15 v2) (ha : 1112 ≤ a1) (hc : 1112 ≤ a2 ∨ a2 + 2 ≤ 1110) (hv : v1 < zpw 155) (hQ : ∀ ν, (∀ b : Int, b ≠ 1110 → b ≠ 1111 → b ≠ a1 → b ≠ a1 + 1 → ν b = μ b) → zBig ν 1110 170 → zBv ν a1 170 (v1 * v2) → Q ν) : zCv X true l d 0 0 y_Scales_multiply [(9, 0, 104), (2, 170, a1), (2, 15, a2)] μ Q := by
  refine c_Scales_multiply (a0 := 104) (d1 := 2) (by omega) ?_
  simp only [Int.reduceAdd]
  refine k_setProduct (a := 1110) (by omega) h h1 h2 (by omega) (by omega) hv (fun ν1 q1 q2 => ?_)
  refine k_setBig (a := a1) (a1 := 1110) (by omega) (by omega) (h1.1.keep (q1 _ (by omega) (by omega)) (q1 _ (by omega) (by omega))) q2 (by omega) (fun ν2 r1 r2 => ?_)
  exact hQ ν2 (fun b b0 b1 b2 b3 => by rw [r1 b b2 b3]; exact q1 b b0 b1) (q2.1.keep (r1 _ (by omega) (by omega)) (r1 _ (by omega) (by omega))) r2
/-- a look at a plan with a law -/
theorem k_lookC {P x : Int} {law : Option zLaw} {K : zM → Prop} (hd : 4 ≤ d) (h : zInv zLR μ) (hl : zLk μ x law) (hx : x = -1 ∨ (0 ≤ x ∧ x < 4)) (P0 : 0 ≤ P) (P1 : P < 6) (hK : ∀ ν, (∀ b : Int, ¬ (105 ≤ b ∧ b ≤ 131) → ν b = μ b) → zBigs ν → zBv ν 128 15 (zstv (μ 1322) P law) → zBv ν 130 15 (zwhv (μ 1322) P - zstv (μ 1322) P law) → K ν) : zCv X true l d 0 0 y_Scene_take [(10, 0, 106), (7, 0, 1), (0, 0, P), (0, 0, x)] μ (fun ν7 => zCv X true l d 0 0 y_Reckoner_reckonAny [(6, 0, 105), (0, 0, ν7 1 4)] ν7 K) := by
  obtain ⟨m0, m1, m2⟩ := h.many P0 P1
  obtain ⟨g0, g1, g2⟩ := h.long
  have hB := h.2.2.2.2.2.2.2.2
  refine k_take (by omega) h P0 P1 hx (fun ν n1 n2 n3 n4 n5 => ?_)
  have e4 : ν 1 4 = ((μ 1322 2).toNat : Int) := by rw [n1 1 (by decide), g0]; omega
  rw [e4]
  have hB2 := hB.keep2 (fun b b0 b1 => n1 b (by omega))
  refine k_reckonAny (m := (μ 1322 (10 + P)).toNat) (by omega) n3 (zMd_db h.rb P0 P1 m1 m2) (hl.1 ν (fun b b0 b1 => n1 b (by omega)) n4) (show μ 1322 (10 + P) = _ by omega) (by omega) ⟨hB2.1.2.1.2.1, hB2.1.2.1.2.2.1, hB2.1.2.1.2.2.2.1⟩ (fun ν2 t1 t2 t3 t4 t5 t6 t7 t8 => ?_)
  rw [n5] at t7 t8
  exact hK ν2 (fun b hb => by rw [t1 b (by omega) (by omega) (by omega)]; exact n1 b (by omega)) (hB2.any (fun b hb => t1 b (by omega) (by omega) (by omega)) t6 t7 t8) t7 t8
theorem zInv.trial {LR : zM → Int → (Int → Int) → Prop} {t : Nat} (h : zInv LR μ) (ht : (t : Int) < μ 1322 4) : μ 12 t = μ 1322 (216 + 2 * t) ∧ μ 13 t = μ 1322 (216 + 2 * t + 1) := by
  have r4 := h.rb.2.2.2.2.1
  have z : ∀ t : Nat, t < 8 → zla (216 + 2 * t) = (11, t) ∧ zla (216 + 2 * t + 1) = (12, t) := by decide
  obtain ⟨z0, z1⟩ := z t (by omega)
  have a0 := h.2.2.2.2.2.1.at' (216 + 2 * t) (by unfold zvl; rw [z0]; show (11 : Nat) < 58; decide) ⟨by omega, by omega, by omega, by omega⟩
  have a1 := h.2.2.2.2.2.1.at' (216 + 2 * t + 1) (by unfold zvl; rw [z1]; show (12 : Nat) < 58; decide) ⟨by omega, by omega, by omega, by omega⟩
  rw [z0] at a0
  rw [z1] at a1
  exact ⟨a0, a1⟩
theorem zInv.weight {LR : zM → Int → (Int → Int) → Prop} {n : Nat} (h : zInv LR μ) (hn : (n : Int) < μ 1322 3) : μ 10 n = μ 1322 (212 + n) := by
  have r3 := h.rb.2.2.2.1
  have z : ∀ n : Nat, n < 4 → zla (212 + n) = (9, n) := by decide
  have z0 := z n (by omega)
  have a0 := h.2.2.2.2.2.1.at' (212 + n) (by unfold zvl; rw [z0]; show (9 : Nat) < 58; decide) ⟨by omega, by omega, by omega, by omega⟩
  rw [z0] at a0
  exact a0
theorem k_load {N : Nat} {lw : Nat → Option zLaw} {Q : zM → Prop} (hd : 5 ≤ d) (h : zInv zLR μ) (hN : μ 1322 3 = N) (hl : ∀ i : Nat, i < N → zLk μ i (lw i)) (hQ : ∀ ν, zKp μ ν → ν 104 1 = N → (∀ i : Nat, i < N → zBv ν (1116 + 8 * i) 170 (zcou (μ 1322) (lw i) (μ 1322 (212 + i)) 0 0 (μ 1322 4).toNat) ∧ zBv ν (1118 + 8 * i) 170 (zcou (μ 1322) (lw i) (μ 1322 (212 + i)) 0 0 (μ 1322 4).toNat)) → Q ν) : zCv X true l d 0 0 y_Scales_load [(9, 0, 104), (7, 0, 1)] μ Q := by
  have hR := h.rb
  have r3 := hR.2.2.2.1
  have r4 := hR.2.2.2.2.1
  obtain ⟨_, _, _, _, _, _, _, _, _, _, _, _, _, _, r14, _⟩ := id hR
  obtain ⟨T, hT⟩ : ∃ T : Nat, μ 1322 4 = T := ⟨(μ 1322 4).toNat, by omega⟩
  rw [hT, Int.toNat_natCast] at hQ
  generalize hc : (fun (i t : Nat) => zcou (μ 1322) (lw i) (μ 1322 (212 + i)) 0 0 t) = c at *
  have hc' : ∀ i t : Nat, zcou (μ 1322) (lw i) (μ 1322 (212 + i)) 0 0 t = c i t := fun i t => by rw [← hc]
  have hB := h.2.2.2.2.2.2.2.2
  have e7 : μ 1 7 = N := by
    have := h.num 3 (by decide) (a := 0) (s := 7) rfl (by decide)
    exact this.trans hN
  have e10 : μ 11 0 = T := by
    have := h.num 4 (by decide) (a := 10) (s := 0) rfl (by decide)
    exact this.trans hT
  have trans8 : ∀ {ν : zM} {i : Nat}, zKp μ ν → i < N → zLk ν i (lw i) := fun {ν i} k hi => ⟨fun ν' a b => (hl i hi).1 ν' (fun b b0 b1 => (a b b0 b1).trans (k.1 b (by omega))) b, fun ν' a b => (hl i hi).2 ν' (by rw [a]; exact k.1 _ (by decide)) b⟩
  refine c_Scales_load (a0 := 104) (a1 := 1) (by omega) ?_
  rw [e7]
  have e3 : (if (N : Int) < 4 then (N : Int) else 4) = N := by split <;> omega
  rw [e3]
  generalize hμ1 : zup μ 104 1 (N : Int) = μ1
  have k1 : zKp μ μ1 := ⟨fun b hb => by rw [← hμ1]; exact zup_ne (by omega), hB.keep2 (fun b b0 b1 => by rw [← hμ1]; exact zup_ne (by omega))⟩
  have n1 : μ1 104 1 = N := by rw [← hμ1]; exact zup_hit
  have outer : ∀ k n : Nat, n + k = N → ∀ ν : zM, zKp μ ν → ν 104 1 = N → (∀ i : Nat, i < n → zBv ν (1116 + 8 * i) 170 (c i T) ∧ zBv ν (1118 + 8 * i) 170 (c i T)) → zE X true l d 0 0 y_Scales_load 14 [some (9, 0, 104), some (7, 0, 1), some (0, 0, (n : Int)), none] [] ν (zrn Q) := by
    intro k
    induction k with
    | zero =>
      intro n hn ν kν eN hv
      obtain rfl : n = N := by omega
      refine s_Scales_load_14 (a0 := 104) (a1 := 1) (d1 := 4) (by omega) ⟨fun _ => hQ ν kν eN (fun i hi => by rw [hc']; exact hv i hi), fun q => absurd ?_ q⟩
      omega
    | succ k ih =>
      intro n hn ν kν eN hv
      have hn3 : (n : Int) < μ 1322 3 := by omega
      have wg : ν 10 n = μ 1322 (212 + n) := by rw [kν.1 10 (by decide)]; exact h.weight hn3
      have wb := r14 (212 + n) (by omega) (by omega)
      have bN := kν.2.1.2.2.1 n (by omega) (by omega)
      refine s_Scales_load_14 (a0 := 104) (a1 := 1) (d1 := 4) (by omega) ⟨fun q => absurd q (by omega), fun _ => ⟨by omega, by omega, ?_⟩⟩
      simp only [Int.reduceAdd]
      rw [wg]
      have inner : ∀ j t : Nat, t + j = T → ∀ ν2 : zM, zKp μ ν2 → ν2 104 1 = N → (∀ i : Nat, i < n → zBv ν2 (1116 + 8 * i) 170 (c i T) ∧ zBv ν2 (1118 + 8 * i) 170 (c i T)) → zBv ν2 (1116 + 8 * n) 170 (c n t) → zE X true l d 0 0 y_Scales_load 39 [some (9, 0, 104), some (7, 0, 1), some (0, 0, (n : Int)), some (0, 0, (t : Int))] [] ν2 (zrn Q) := by
        intro j
        induction j with
        | zero =>
          intro t ht ν2 k2 f2 v2 w2
          obtain rfl : t = T := by omega
          have t10 : ν2 11 0 = t := by rw [k2.1 11 (by decide)]; exact e10
          have b2 := k2.2.1.2.2.1 n (by omega) (by omega)
          refine s_Scales_load_39 (a0 := 104) (a1 := 1) (d1 := 4) (by omega) ⟨fun _ => ⟨by omega, by omega, ?_⟩, fun q => absurd (show ν2 11 0 ≤ _ by omega) q⟩
          simp only [Int.reduceAdd]
          refine k_setBig (a := 1118 + 8 * (n : Int)) (a1 := 1116 + 8 * (n : Int)) (by omega) (by omega) b2.2.1 w2 (by omega) (fun ν3 q1 q2 => ?_)
          rw [zw_of (by omega) (by omega)]
          refine ih (n + 1) (by omega) ν3 ⟨fun b hb => (q1 b (by omega) (by omega)).trans (k2.1 b hb), k2.2.sc q1 q2.1 (by omega) (by omega)⟩ (by rw [q1 104 (by omega) (by omega)]; exact f2) (fun i hi => ?_)
          by_cases e : i = n
          · rw [e]
            exact ⟨w2.keep (q1 _ (by omega) (by omega)) (q1 _ (by omega) (by omega)), q2⟩
          · have v := v2 i (by omega)
            exact ⟨v.1.keep (q1 _ (by omega) (by omega)) (q1 _ (by omega) (by omega)), v.2.keep (q1 _ (by omega) (by omega)) (q1 _ (by omega) (by omega))⟩
        | succ j ihj =>
          intro t ht ν2 k2 f2 v2 w2
          have t10 : ν2 11 0 = T := by rw [k2.1 11 (by decide)]; exact e10
          have htt : (t : Int) < μ 1322 4 := by omega
          have tr := ztrial hR htt
          have tm := h.trial htt
          have e12 : ν2 12 t = μ 1322 (216 + 2 * t) := by rw [k2.1 12 (by decide)]; exact tm.1
          have inv2 := h.cm k2.cm
          have er : ν2 1322 = μ 1322 := k2.1 _ (by decide)
          refine s_Scales_load_39 (a0 := 104) (a1 := 1) (d1 := 4) (by omega) ⟨fun q => absurd (show ν2 11 0 ≤ _ from q) (by omega), fun _ => ⟨fun q => absurd q (by omega), fun _ => ⟨by omega, ?_⟩⟩⟩
          simp only [Int.reduceAdd]
          rw [e12]
          refine k_lookC (law := lw n) (by omega) inv2 (trans8 k2 (by omega)) (by omega) tr.1.1 (by omega) (fun ν9 q1 q2 q3 q4 => ⟨by omega, by omega, ?_⟩)
          rw [er] at q3 q4
          have e13 : ν9 13 t = μ 1322 (216 + 2 * t + 1) := by rw [q1 13 (by decide), k2.1 13 (by decide)]; exact tm.2
          have k9 : zKp μ ν9 := ⟨fun b hb => (q1 b (by omega)).trans (k2.1 b hb), q2⟩
          have w9 : zBv ν9 (1116 + 8 * n) 170 (c n t) := w2.keep (q1 _ (by omega)) (q1 _ (by omega))
          have cb := zcou_bd (law := lw n) (hid := 0) (hAny := 0) hR (show 0 ≤ μ 1322 (212 + n) by omega) (by omega) t (by omega)
          have lim := zhp2 (n := 60 * t + 1) (by omega)
          rw [hc' n t] at cb
          have fin : ∀ ν13 : zM, (∀ b : Int, b ≠ 1110 → b ≠ 1111 → b ≠ 1116 + 8 * (n : Int) → b ≠ 1116 + 8 * (n : Int) + 1 → ν13 b = ν9 b) → zBig ν13 1110 170 → zBv ν13 (1116 + 8 * n) 170 (c n (t + 1)) → zE X true l d 0 0 y_Scales_load 39 [some (9, 0, 104), some (7, 0, 1), some (0, 0, (n : Int)), some (0, 0, zw ((t : Int) + 1))] [] ν13 (zrn Q) := fun ν13 p1 p2 p3 => by
            rw [zw_of (by omega) (by omega)]
            have hmid : zBigs (fun b => if b = 1110 ∨ b = 1111 then ν13 b else ν9 b) := q2.sc (a := 1110) (L := 170) (fun b b0 b1 => if_neg (by omega)) (p2.keep (by simp) (by simp)) (by omega) (by omega)
            refine ihj (t + 1) (by omega) ν13 ⟨fun b hb => (p1 b (by omega) (by omega) (by omega) (by omega)).trans (k9.1 b hb), hmid.sc (a := 1116 + 8 * (n : Int)) (L := 170) (fun b b0 b1 => ?_) p3.1 (by omega) (by omega)⟩ (by rw [p1 104 (by omega) (by omega) (by omega) (by omega), q1 104 (by decide)]; exact f2) (fun i hi => ?_) p3
            · show ν13 b = if b = 1110 ∨ b = 1111 then ν13 b else ν9 b
              split
              · rfl
              · exact p1 b (by omega) (by omega) b0 b1
            · have v := v2 i hi
              have f : ∀ b : Int, 1116 ≤ b → b ≠ 1116 + 8 * (n : Int) → b ≠ 1116 + 8 * (n : Int) + 1 → ν13 b = ν2 b := fun b b0 b1 b2 => (p1 b (by omega) (by omega) b1 b2).trans (q1 b (by omega))
              exact ⟨v.1.keep (f _ (by omega) (by omega) (by omega)) (f _ (by omega) (by omega) (by omega)), v.2.keep (f _ (by omega) (by omega) (by omega)) (f _ (by omega) (by omega) (by omega))⟩
          have cs : c n (t + 1) = c n t * zfac (μ 1322) (lw n) 0 0 t := by rw [← hc', ← hc', zcou_s]
          rw [e13]
          by_cases z : μ 1322 (216 + 2 * t + 1) = 1
          · rw [if_neg (by omega)]
            refine k_multiply (a1 := 1116 + 8 * (n : Int)) (a2 := 130) (by omega) q2.1.2.2.2.1 w9 q4 (by omega) (by omega) (by omega) (fun ν13 p1 p2 p3 => fin ν13 p1 p2 ?_)
            rw [cs]
            unfold zfac
            rw [if_pos htt, if_neg (by omega)]
            exact p3
          · rw [if_pos z]
            refine k_multiply (a1 := 1116 + 8 * (n : Int)) (a2 := 128) (by omega) q2.1.2.2.2.1 w9 q3 (by omega) (by omega) (by omega) (fun ν13 p1 p2 p3 => fin ν13 p1 p2 ?_)
            rw [cs]
            unfold zfac
            rw [if_pos htt, if_pos (by omega)]
            exact p3
      refine k_setSmall (a := 1116 + 8 * (n : Int)) (L := 170) (by omega) (by omega) (by omega) bN.1 (by omega) (by omega) (fun ν2 q1 q2 => ?_)
      refine inner T 0 (by omega) ν2 ⟨fun b hb => (q1 b (by omega) (by omega)).trans (kν.1 b hb), kν.2.sc q1 q2.1 (by omega) (by omega)⟩ (by rw [q1 104 (by omega) (by omega)]; exact eN) (fun i hi => ?_) ?_
      · have v := hv i hi
        exact ⟨v.1.keep (q1 _ (by omega) (by omega)) (q1 _ (by omega) (by omega)), v.2.keep (q1 _ (by omega) (by omega)) (q1 _ (by omega) (by omega))⟩
      · rw [← hc']
        exact q2
  exact outer N 0 (by omega) μ1 k1 n1 (fun i hi => by omega)
end

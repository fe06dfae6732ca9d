/-! few -/
def zfs (ρ : Int → Int) (P : Int) (law : Option zLaw) (G n : Nat) : Int := zsty (fun p g => zcha (zMd ρ P n 0 0) law (-1) p g 0 0) n G
def zfT (ρ : Int → Int) (P : Int) (law : Option zLaw) (G m n : Nat) : Int := zfs ρ P law G n * 100 ^ ((m - n) * G)
def zfw (T : Nat → Int) : Nat → Nat
  | 0 => 0
  | n + 1 => if zfw T n = 0 then n + 1 else if T (n + 1) < T (zfw T n) then n + 1 else zfw T n
theorem zfw_s (T : Nat → Int) (n : Nat) : zfw T (n + 1) = if zfw T n = 0 then n + 1 else if T (n + 1) < T (zfw T n) then n + 1 else zfw T n := rfl
theorem zfw_le (T : Nat → Int) : ∀ n : Nat, zfw T n ≤ n ∧ (0 < n → 0 < zfw T n)
  | 0 => by unfold zfw; omega
  | n + 1 => by
    have := zfw_le T n
    unfold zfw
    repeat' split
    all_goals omega
theorem zfs_bd {ρ : Int → Int} {P : Int} {law : Option zLaw} {G n : Nat} : 0 ≤ zfs ρ P law G n ∧ zfs ρ P law G n ≤ 100 ^ (n * G) := zsty_bd (fun _ _ => zcha_bd) n G
theorem zfT_bd {ρ : Int → Int} {P : Int} {law : Option zLaw} {G m n : Nat} (h : n ≤ m) : 0 ≤ zfT ρ P law G m n ∧ zfT ρ P law G m n ≤ 100 ^ (m * G) := by
  have b := zfs_bd (ρ := ρ) (P := P) (law := law) (G := G) (n := n)
  have p : (0 : Int) < 100 ^ ((m - n) * G) := Int.pow_pos (by decide)
  have c := zmulb b.1 b.2 (Int.le_of_lt p) (Int.le_refl _)
  rw [← Int.pow_add, ← Nat.add_mul, show n + (m - n) = m by omega] at c
  exact c
section
variable {X : zX} {l : Launch} {d : Nat} {μ : zM} {Q : Int → Int → zM → Prop}
/-- the two long numbers compared from above, as few does it -/
theorem k_few111 {a b : Int} {its x1 x3 : Int} {u v : Int} {R : Option zV → zM → Prop} (hu : zRn μ 1333 16 u) (hv : its ≠ -1 → zRn μ 1341 16 v) (k1 : its = -1 ∨ v < u → zE X true l d 0 0 y_M_few 202 [some (13, 0, 1320), some (0, 0, x1), some (0, 0, x3), some (0, 0, x3), none, none, some (0, 0, 0)] [] μ R) (k0 : ¬ (its = -1 ∨ v < u) → zE X true l d 0 0 y_M_few 24 [some (13, 0, 1320), some (0, 0, x1), some (0, 0, its), some (0, 0, zw (x3 + 1)), none, none, none] [] μ R) : zE X true l d 0 0 y_M_few 111 [some (13, 0, 1320), some (0, 0, x1), some (0, 0, its), some (0, 0, x3), some (0, 0, (if ¬ its = -1 then (0 : Int) else 1)), some (0, 0, 0), some (0, 0, 15)] [] μ R := by
  have loop : ∀ n : Nat, n ≤ 16 → ∀ mo le : Int, ((mo = 0 ∧ le = 0 ∧ its ≠ -1 ∧ ∀ j : Int, (n : Int) ≤ j → j < 16 → μ 1333 j = μ 1341 j) ∨ (mo = 1 ∧ le = 0 ∧ (its = -1 ∨ v < u)) ∨ (mo = 0 ∧ le = 1 ∧ its ≠ -1 ∧ u < v)) → zE X true l d 0 0 y_M_few 111 [some (13, 0, 1320), some (0, 0, x1), some (0, 0, its), some (0, 0, x3), some (0, 0, mo), some (0, 0, le), some (0, 0, (n : Int) - 1)] [] μ R := by
    intro n
    induction n with
    | zero =>
      intro hn mo le hs
      refine s_M_few_111 ⟨fun _ => ⟨fun e => k0 ?_, fun e => k1 ?_⟩, fun c => absurd (by omega) c⟩
      · rcases hs with ⟨h1, h2, h3, h4⟩ | ⟨h1, h2, h3⟩ | ⟨h1, h2, h3, h4⟩
        · have e2 : u = v := by rw [← hu.2, ← (hv h3).2]; exact znum_congr 16 (fun j j0 j1 => h4 j (by omega) j1)
          omega
        · omega
        · omega
      · rcases hs with ⟨h1, h2, h3, h4⟩ | ⟨h1, h2, h3⟩ | ⟨h1, h2, h3, h4⟩
        · omega
        · exact h3
        · omega
    | succ n ih =>
      intro hn mo le hs
      have en : ((n + 1 : Nat) : Int) - 1 = n := by omega
      have ez : zw ((n : Int) + (-1)) = n - 1 := by rw [zw_of (by omega) (by omega)]; omega
      rw [en]
      rcases hs with ⟨rfl, rfl, h3, h4⟩ | ⟨rfl, rfl, h3⟩ | ⟨rfl, rfl, h3, h4⟩
      · refine s_M_few_111 (a0 := 1320) ⟨fun c => absurd c (by omega), fun _ => ⟨fun c => absurd rfl c, fun _ => ⟨fun c => absurd rfl c, fun _ => ⟨by omega, by omega, ?_⟩⟩⟩⟩
        simp only [Int.reduceAdd, zcmp_le]
        refine ⟨fun c => s_M_few_149 (a0 := 1320) ⟨fun c => absurd rfl c, fun _ => ⟨fun c => absurd rfl c, fun _ => ⟨by omega, by omega, ?_⟩⟩⟩, fun c => s_M_few_149 (a0 := 1320) ⟨fun c => absurd rfl c, fun _ => ⟨fun _ => ?_, fun c => absurd c (by decide)⟩⟩⟩
        · simp only [Int.reduceAdd, zcmp_ge, ez]
          refine ⟨fun c2 => ih (by omega) 0 0 (Or.inl ⟨rfl, rfl, h3, fun j j0 j1 => ?_⟩), fun c2 => ih (by omega) 0 1 (Or.inr (Or.inr ⟨rfl, rfl, h3, ?_⟩))⟩
          · by_cases e : j = n
            · rw [e]; omega
            · exact h4 j (by omega) j1
          · have := znum_lt (f := μ 1333) (g := μ 1341) (n := 16) (k := n) hu.1 (hv h3).1 (by omega) (fun j j0 j1 => h4 j (by omega) j1) (by omega)
            rw [hu.2, (hv h3).2] at this
            exact this
        · rw [ez]
          refine ih (by omega) 1 0 (Or.inr (Or.inl ⟨rfl, rfl, Or.inr ?_⟩))
          have := znum_lt (f := μ 1341) (g := μ 1333) (n := 16) (k := n) (hv h3).1 hu.1 (by omega) (fun j j0 j1 => (h4 j (by omega) j1).symm) (by omega)
          rw [hu.2, (hv h3).2] at this
          exact this
      · refine s_M_few_111 (a0 := 1320) ⟨fun c => absurd c (by omega), fun _ => ⟨fun _ => s_M_few_149 (a0 := 1320) ⟨fun c => absurd rfl c, fun _ => ⟨fun _ => ?_, fun c => absurd c (by decide)⟩⟩, fun c => absurd c (by decide)⟩⟩
        rw [ez]
        exact ih (by omega) 1 0 (Or.inr (Or.inl ⟨rfl, rfl, h3⟩))
      · refine s_M_few_111 (a0 := 1320) ⟨fun c => absurd c (by omega), fun _ => ⟨fun c => absurd rfl c, fun _ => ⟨fun _ => s_M_few_149 (a0 := 1320) ⟨fun _ => ?_, fun c => absurd c (by decide)⟩, fun c => absurd c (by decide)⟩⟩⟩
        rw [ez]
        exact ih (by omega) 0 1 (Or.inr (Or.inr ⟨rfl, rfl, h3, h4⟩))
  by_cases e : its = -1
  · rw [if_neg (by omega)]
    exact loop 16 (by omega) 1 0 (Or.inr (Or.inl ⟨rfl, rfl, Or.inl e⟩))
  · rw [if_pos e]
    exact loop 16 (by omega) 0 0 (Or.inl ⟨rfl, rfl, e, fun j j0 j1 => by omega⟩)
end
section
variable {X : zX} {l : Launch} {d : Nat} {μ : zM} {Q : Int → Int → zM → Prop}
theorem p_few (h : zInv zLR μ) (hd : 7 ≤ d) (hQ : ∀ v ρ, zInv zLR ρ → Q v v ρ) : zCi X true l d 0 0 y_S_few [(12, 0, 0)] μ (fun v ν => zCi X true l d 0 0 y_M_few [(13, 0, 1320)] ν (fun w ρ => Q v w ρ)) := by
  obtain ⟨u0, u1, u2⟩ := h.use
  obtain ⟨m0, m1, m2⟩ := h.many u1 u2
  obtain ⟨g0, g1, g2⟩ := h.long
  obtain ⟨f0, f1, f2, f3⟩ := h.force
  obtain ⟨law, hl⟩ := h.law (x := μ 1322 1) (by omega)
  have hl : zLk μ (μ 1322 1) law := hl
  have hB := h.2.2.2.2.2.2.2.2
  obtain ⟨m, hm⟩ : ∃ m : Nat, μ 1322 (10 + μ 1322 0) = m := ⟨(μ 1322 (10 + μ 1322 0)).toNat, by omega⟩
  obtain ⟨G, hG⟩ : ∃ G : Nat, μ 1322 2 = G := ⟨(μ 1322 2).toNat, by omega⟩
  rw [hm] at m0
  have h60 := zmn (m := m) (G := G) (by omega) (by omega)
  have h5G : 5 * G ≤ 60 := by omega
  generalize hT : zfT (μ 1322) (μ 1322 0) law G m = T
  have big : ∀ {n : Nat}, n ≤ 60 → (100 : Int) ^ n < zpw 16 := fun {n} hn => by
    have := z120 hn
    have := zpw_mono (m := 15) (n := 16) (by omega)
    omega
  -- the reference
  have ref : ∀ ν : zM, zCm μ ν → zCi X true l d 0 0 y_M_few [(13, 0, 1320)] ν (fun w ρ => Q (if zfw T m = 0 then -1 else (zfw T m : Int)) w ρ) := by
    intro ν cν
    have loop : ∀ k n : Nat, n + k = m → ∀ ν' : zM, zCm μ ν' → (zfw T n ≠ 0 → zRn ν' 1341 16 (100 ^ (m * G) - T (zfw T n))) → zE X true l d 0 0 y_M_few 24 [some (13, 0, 1320), some (0, 0, (m : Int)), some (0, 0, (if zfw T n = 0 then -1 else (zfw T n : Int))), some (0, 0, (n : Int) + 1), none, none, none] [] ν' (zri (fun w ρ => Q (if zfw T m = 0 then -1 else (zfw T m : Int)) w ρ)) := by
      intro k
      induction k with
      | zero =>
        intro n hn ν' c' hb
        obtain rfl : n = m := by omega
        exact s_M_few_24 (a0 := 1320) (d1 := 6) (by omega) ⟨fun _ => hQ _ _ (h.cm c'), fun c => absurd (by omega) c⟩
      | succ k ih =>
        intro n hn ν' c' hb
        have er := c'.row
        have wl := zfw_le T n
        refine s_M_few_24 (a0 := 1320) (d1 := 6) (by omega) ⟨fun c => absurd c (by omega), fun _ => c_M_lookAt ?_⟩
        simp only [Int.reduceAdd]
        rw [er]
        generalize hμ2 : zup (zup (zup (zup (zup ν' 1320 30 (μ 1322 0)) 1320 31 ((n : Int) + 1)) 1320 32 (μ 1322 1)) 1320 33 (-1)) 1320 34 0 = μ2
        have q30 : μ2 1320 30 = μ 1322 0 := by rw [← hμ2]; simp [zup]
        have q31 : μ2 1320 31 = ((n + 1 : Nat) : Int) := by rw [← hμ2]; simp [zup]
        have q32 : μ2 1320 32 = μ 1322 1 := by rw [← hμ2]; simp [zup]
        have q33 : μ2 1320 33 = -1 := by rw [← hμ2]; simp [zup]
        have q34 : μ2 1320 34 = 0 := by rw [← hμ2]; simp [zup]
        have q0 : ∀ b : Int, b ≠ 1320 → μ2 b = ν' b := fun b hb => by rw [← hμ2, zup_ne hb, zup_ne hb, zup_ne hb, zup_ne hb, zup_ne hb]
        have qj : ∀ j : Int, j ≠ 30 → j ≠ 31 → j ≠ 32 → j ≠ 33 → j ≠ 34 → μ2 1320 j = ν' 1320 j := fun j j1 j2 j3 j4 j5 => by rw [← hμ2, zup_miss (by omega), zup_miss (by omega), zup_miss (by omega), zup_miss (by omega), zup_miss (by omega)]
        have r22 : μ2 1322 = μ 1322 := by rw [q0 _ (by decide), er]
        have e2 : μ2 1322 2 = G := by rw [r22]; exact hG
        rw [e2]
        refine k_findAny (law := law) (by omega) (by rw [r22]; exact h.rb) q30 u1 u2 q31 (by omega) q34 (hl.2 μ2 r22 q32) (by omega) (fun ν3 t1 t2 t3 t4 => ?_)
        rw [q33, r22] at t4
        have sb := zfs_bd (ρ := μ 1322) (P := μ 1322 0) (law := law) (G := G) (n := n + 1)
        have t4' : zRn ν3 1333 16 ((100 ^ ((n + 1) * G) - zfs (μ 1322) (μ 1322 0) law G (n + 1)) * 100 ^ 0) := by
          rw [show (100 : Int) ^ 0 = 1 by decide, Int.mul_one]; exact t4
        -- all by the number below of all
        have fr : ∀ ν4 : zM, (∀ b : Int, b ≠ 1333 → ν4 b = ν3 b) → zCm ν' ν4 ∧ ν4 1341 = ν' 1341 := fun ν4 s1 => by
          refine ⟨⟨fun b b0 b1 => ?_, ?_, fun b b0 b1 => ?_, fun b b0 b1 => ?_, ?_, ?_, (h.cm c').2.2.2.2.2.2.2.2.keep2 (fun b b0 b1 => ?_)⟩, ?_⟩
          · rw [s1 b (by omega), t1 b (by omega) (by omega), q0 b (by omega)]
          · rw [s1 _ (by decide), t1 _ (by decide) (by decide), q0 _ (by decide)]
          · rw [s1 b (by omega), t1 b (by omega) (by omega), q0 b (by omega)]
          · rw [s1 b (by omega), t1 b (by omega) (by omega), q0 b (by omega)]
          · rw [s1 _ (by decide), t1 _ (by decide) (by decide), q0 _ (by decide)]
          · have ej : ∀ j : Int, j ≠ 24 → j ≠ 27 → j ≠ 28 → j ≠ 29 → j ≠ 30 → j ≠ 31 → j ≠ 32 → j ≠ 33 → j ≠ 34 → ν4 1320 j = ν' 1320 j := fun j j1 j2 j3 j4 j5 j6 j7 j8 j9 => by rw [s1 1320 (by decide), t2 j j1 j2 j3 j4, qj j j5 j6 j7 j8 j9]
            exact ⟨ej 1 (by decide) (by decide) (by decide) (by decide) (by decide) (by decide) (by decide) (by decide) (by decide), ej 7 (by decide) (by decide) (by decide) (by decide) (by decide) (by decide) (by decide) (by decide) (by decide), ej 12 (by decide) (by decide) (by decide) (by decide) (by decide) (by decide) (by decide) (by decide) (by decide), ej 45 (by decide) (by decide) (by decide) (by decide) (by decide) (by decide) (by decide) (by decide) (by decide)⟩
          · rw [s1 b (by omega), t1 b (by omega) (by omega), q0 b (by omega)]
          · rw [s1 _ (by decide), t1 _ (by decide) (by decide), q0 _ (by decide)]
        have l59 : ∀ k2 i : Nat, i + k2 = (m - (n + 1)) * G → ∀ ν4 : zM, (∀ b : Int, b ≠ 1333 → ν4 b = ν3 b) → zRn ν4 1333 16 ((100 ^ ((n + 1) * G) - zfs (μ 1322) (μ 1322 0) law G (n + 1)) * 100 ^ i) → zE X true l d 0 0 y_M_few 59 [some (13, 0, 1320), some (0, 0, (m : Int)), some (0, 0, (if zfw T n = 0 then -1 else (zfw T n : Int))), some (0, 0, (n : Int) + 1), some (0, 0, (i : Int)), none, none] [] ν4 (zri (fun w ρ => Q (if zfw T m = 0 then -1 else (zfw T m : Int)) w ρ)) := by
          have hle : (m - (n + 1)) * G ≤ 60 := Nat.le_trans (Nat.mul_le_mul_right G (Nat.sub_le m (n + 1))) h60
          have ew : ∀ ν4 : zM, (∀ b : Int, b ≠ 1333 → ν4 b = ν3 b) → zw (zw ((m : Int) - ((n : Int) + 1)) * ν4 (1320 + 2) 2) = (((m - (n + 1)) * G : Nat) : Int) := fun ν4 s1 => by
            have e6 : ν4 (1320 + 2) 2 = G := by show ν4 1322 2 = _; rw [s1 _ (by decide), t1 1322 (by decide) (by decide)]; exact e2
            rw [e6, zw_of (x := (m : Int) - ((n : Int) + 1)) (by omega) (by omega), show (m : Int) - ((n : Int) + 1) = ((m - (n + 1) : Nat) : Int) by omega, ← Int.natCast_mul, zw_of (by omega) (by omega)]
          intro k2
          induction k2 with
          | zero =>
            intro i hi ν4 s1 s2
            refine s_M_few_59 (a0 := 1320) (d1 := 6) (by omega) ⟨fun _ => ?_, fun c => absurd (by rw [ew ν4 s1]; omega) c⟩
            obtain ⟨c4, e41⟩ := fr ν4 s1
            have eU : (100 ^ ((n + 1) * G) - zfs (μ 1322) (μ 1322 0) law G (n + 1)) * 100 ^ i = 100 ^ (m * G) - T (n + 1) := by
              rw [← hT]
              unfold zfT
              rw [Int.sub_mul, ← Int.pow_add, show i = (m - (n + 1)) * G by omega, ← Nat.add_mul, show n + 1 + (m - (n + 1)) = m by omega]
            rw [eU] at s2
            have hcond : ((if zfw T n = 0 then (-1 : Int) else (zfw T n : Int)) = -1 ∨ 100 ^ (m * G) - T (zfw T n) < 100 ^ (m * G) - T (n + 1)) ↔ zfw T (n + 1) = n + 1 := by
              rw [zfw_s]
              by_cases e : zfw T n = 0
              · rw [if_pos e, if_pos e]; simp
              · rw [if_neg e, if_neg e]
                by_cases c : T (n + 1) < T (zfw T n)
                · rw [if_pos c]; constructor
                  · intro _; rfl
                  · intro _; exact Or.inr (by omega)
                · rw [if_neg c]; constructor
                  · intro q; rcases q with q | q <;> omega
                  · intro q; omega
            refine k_few111 (a := 0) (b := 0) (v := 100 ^ (m * G) - T (zfw T n)) s2 (fun e => ?_) (fun c => ?_) (fun c => ?_)
            · rw [zRn, e41]
              by_cases e2 : zfw T n = 0
              · rw [if_pos e2] at e; exact absurd rfl e
              · exact hb e2
            · -- a new best: it is copied
              have ef := hcond.mp c
              have l202 : ∀ k3 j : Nat, j + k3 = 16 → ∀ ν5 : zM, (∀ b : Int, b ≠ 1341 → ν5 b = ν4 b) → (∀ q : Int, 0 ≤ q → q < j → ν5 1341 q = ν4 1333 q) → zE X true l d 0 0 y_M_few 202 [some (13, 0, 1320), some (0, 0, (m : Int)), some (0, 0, (n : Int) + 1), some (0, 0, (n : Int) + 1), none, none, some (0, 0, (j : Int))] [] ν5 (zri (fun w ρ => Q (if zfw T m = 0 then -1 else (zfw T m : Int)) w ρ)) := by
                intro k3
                induction k3 with
                | zero =>
                  intro j hj ν5 w1 w2
                  obtain rfl : j = 16 := by omega
                  refine s_M_few_202 ⟨fun _ => ?_, fun c => absurd (by decide) c⟩
                  have c5 : zCm ν' ν5 := by
                    obtain ⟨a1, a2, a3, a4, a5, a6, a7⟩ := c4
                    exact ⟨fun b b0 b1 => by rw [w1 b (by omega)]; exact a1 b b0 b1, by rw [w1 _ (by decide)]; exact a2, fun b b0 b1 => by rw [w1 b (by omega)]; exact a3 b b0 b1, fun b b0 b1 => by rw [w1 b (by omega)]; exact a4 b b0 b1, by rw [w1 _ (by decide)]; exact a5, by rw [w1 1320 (by decide)]; exact a6, a7.keep2 (fun b b0 b1 => w1 b (by omega))⟩
                  have nx := ih (n + 1) (by omega) ν5 (c'.trans c5) (fun _ => ⟨fun q q0 q1 => by rw [w2 q q0 q1]; exact s2.1 q q0 q1, by rw [ef, ← s2.2]; exact znum_congr 16 w2⟩)
                  rw [ef, if_neg (by omega)] at nx
                  rw [zw_of (by omega) (by omega)]
                  exact nx
                | succ k3 ih3 =>
                  intro j hj ν5 w1 w2
                  refine s_M_few_202 (a0 := 1320) ⟨fun c => absurd c (by omega), fun _ => ⟨by omega, by omega, ?_⟩⟩
                  simp only [Int.reduceAdd]
                  rw [zw_of (by omega) (by omega), w1 1333 (by decide)]
                  refine ih3 (j + 1) (by omega) _ (fun b hb => (zup_ne hb).trans (w1 b hb)) (fun q q0 q1 => ?_)
                  rw [zup_val]
                  split
                  · rename_i e; rw [e]
                  · exact w2 q q0 (by omega)
              exact l202 16 0 rfl ν4 (fun _ _ => rfl) (fun q q0 q1 => by omega)
            · have ef : zfw T (n + 1) = zfw T n := by
                have nf : zfw T (n + 1) ≠ n + 1 := fun q => c (hcond.mpr q)
                rw [zfw_s] at nf ⊢
                by_cases e : zfw T n = 0
                · rw [if_pos e] at nf; exact absurd rfl nf
                · rw [if_neg e] at nf ⊢
                  by_cases c2 : T (n + 1) < T (zfw T n)
                  · rw [if_pos c2] at nf; exact absurd rfl nf
                  · rw [if_neg c2]
              have nx := ih (n + 1) (by omega) ν4 (c'.trans c4) (fun e => by rw [ef] at e ⊢; rw [zRn, e41]; exact hb e)
              rw [ef] at nx
              rw [zw_of (by omega) (by omega)]
              exact nx
          | succ k2 ih2 =>
            intro i hi ν4 s1 s2
            have pi : (100 : Int) ^ ((n + 1) * G) * 100 ^ (i + 1) ≤ 100 ^ (m * G) := by
              rw [← Int.pow_add]
              refine zhm_mono ?_
              have : (n + 1) * G + (m - (n + 1)) * G = m * G := by rw [← Nat.add_mul]; congr 1; omega
              omega
            have p0 : (0 : Int) < 100 ^ (i + 1) := Int.pow_pos (by decide)
            have lim : (100 ^ ((n + 1) * G) - zfs (μ 1322) (μ 1322 0) law G (n + 1)) * 100 ^ i * 100 < zpw 16 := by
              rw [Int.mul_assoc, ← Int.pow_succ]
              have q := Int.mul_le_mul_of_nonneg_right (show 100 ^ ((n + 1) * G) - zfs (μ 1322) (μ 1322 0) law G (n + 1) ≤ 100 ^ ((n + 1) * G) by omega) (Int.le_of_lt p0)
              have := big h60
              have e : i.succ = i + 1 := rfl
              rw [e]
              omega
            refine s_M_few_59 (a0 := 1320) (d1 := 6) (by omega) ⟨fun c => absurd c (by rw [ew ν4 s1]; omega), fun _ => k_M_times (c := 1333) (n := 16) (by omega) (by omega) s2 (by omega) (by omega) lim (fun ν5 w1 w2 => ?_)⟩
            rw [zw_of (by omega) (by omega)]
            rw [Int.mul_assoc, ← Int.pow_succ] at w2
            exact ih2 (i + 1) (by omega) ν5 (fun b hb => (w1 b hb).trans (s1 b hb)) w2
        exact l59 ((m - (n + 1)) * G) 0 (by omega) ν3 (fun _ _ => rfl) t4'
    have c2 := cν.trans (zCm.thrown (h.cm cν))
    refine c_M_few (a0 := 1320) ?_
    simp only [Int.reduceAdd]
    rw [c2.row, zw_of (by omega) (by omega), hm]
    exact ⟨by omega, loop m 0 (by omega) _ c2 (fun e => absurd rfl e)⟩
  have eK : ∀ b : Nat, b ≤ m → zfs (μ 1322) (μ 1322 0) law G b * 100 ^ ((5 - b) * G) = T b * 100 ^ ((5 - m) * G) := fun b hb => by
    rw [← hT]
    unfold zfT
    rw [Int.mul_assoc, ← Int.pow_add, ← Nat.add_mul]
    congr 2
    congr 1
    omega
  have K0 : (0 : Int) < 100 ^ ((5 - m) * G) := Int.pow_pos (by decide)
  have h5m : m ≤ 5 := by omega
  refine c_S_few (a0 := 0) (d1 := 6) (by omega) (k_lookAround (by omega) h (fun ν n1 n2 n3 n4 => k_S_planInUse (by omega) (by rw [n1 1 (by decide), u0]; exact ⟨u1, u2⟩) ?_))
  simp only [Int.reduceAdd]
  have em : ν (23 + 6 * μ 1322 0) 0 = m := by rw [n1 _ (by omega)]; exact m0
  have e4 : ν 1 4 = G := by rw [n1 1 (by decide), g0]; exact hG
  rw [show ν 1 0 = μ 1322 0 by rw [n1 1 (by decide)]; exact u0, em, e4]
  have loop : ∀ k n : Nat, n + k = m → ∀ ν' : zM, zCm μ ν' → (∃ w : Int, zCd ν' (zMd (μ 1322) (μ 1322 0) w 0 0)) → ν' 106 = ν 106 → (zfw T n ≠ 0 → zBv ν' 132 15 (T (zfw T n) * 100 ^ ((5 - m) * G))) → zE X true l 6 0 0 y_Reckoner_fewest 5 [some (6, 0, 105), some (0, 0, (m : Int)), some (0, 0, (G : Int)), some (0, 0, (if zfw T n = 0 then -1 else (zfw T n : Int))), some (0, 0, (n : Int) + 1), none] [] ν' (zri (fun v ν => zCi X true l d 0 0 y_M_few [(13, 0, 1320)] ν (fun w ρ => Q v w ρ))) := by
    intro k
    induction k with
    | zero =>
      intro n hn ν' c' hw q6 hb
      obtain rfl : n = m := by omega
      exact s_Reckoner_fewest_5 (a0 := 105) (d1 := 5) (by omega) ⟨fun _ => ref ν' c', fun c => absurd (by omega) c⟩
    | succ k ih =>
      intro n hn ν' c' hw q6 hb
      obtain ⟨w, hw⟩ := hw
      have wl := zfw_le T n
      refine s_Reckoner_fewest_5 (a0 := 105) (d1 := 5) (by omega) ⟨fun c => absurd c (by omega), fun _ => ⟨fun c => absurd c (by omega), fun _ => ?_⟩⟩
      simp only [Int.reduceAdd]
      have z7 : ∀ b : Int, b ≠ 107 → zup ν' 107 0 ((n : Int) + 1) b = ν' b := fun b hb => zup_ne hb
      have hC : zCd (zup ν' 107 0 ((n : Int) + 1)) (zMd (μ 1322) (μ 1322 0) ((n : Int) + 1) 0 0) := by
        obtain ⟨a1, a2, a3⟩ := hw
        refine ⟨fun p p0 p1 => ?_, fun g g0 g1 => ?_, ?_⟩
        · rw [z7 108 (by decide), z7 109 (by decide), z7 110 (by decide), z7 111 (by decide), z7 117 (by decide), z7 114 (by decide), z7 115 (by decide), z7 116 (by decide), z7 112 (by decide)]
          exact a1 p p0 p1
        · rw [z7 118 (by decide)]; exact a2 g g0 g1
        · rw [zup_hit]; rfl
      have B := c'.2.2.2.2.2.2
      have e106 : zup ν' 107 0 ((n : Int) + 1) 106 = ν 106 := by rw [z7 106 (by decide)]; exact q6
      refine k_reckonAny (law := law) (m := n + 1) (G := G) (by omega) hC (zMd_db h.rb u1 u2 (by omega) (by omega)) (hl.1 _ (fun b b0 b1 => by rw [z7 b (by omega)]; exact c'.1 b b0 b1) (by rw [e106]; exact n3)) rfl (by omega) ⟨B.1.2.1.2.1.keep (z7 _ (by decide)) (z7 _ (by decide)), B.1.2.1.2.2.1.keep (z7 _ (by decide)) (z7 _ (by decide)), B.1.2.1.2.2.2.1.keep (z7 _ (by decide)) (z7 _ (by decide))⟩ (fun ν3 t1 t2 t3 t4 t5 t6 t7 t8 => ?_)
      rw [e106, n4] at t7
      have sb := zfs_bd (ρ := μ 1322) (P := μ 1322 0) (law := law) (G := G) (n := n + 1)
      have t7' : zBv ν3 128 15 (zfs (μ 1322) (μ 1322 0) law G (n + 1) * 100 ^ 0) := by
        rw [show (100 : Int) ^ 0 = 1 by decide, Int.mul_one]; exact t7
      have hn60 := zmn (m := n + 1) (G := G) (by omega) (by omega)
      rw [show zw (((n : Int) + 1) * G) = (((n + 1) * G + 0 : Nat) : Int) by
        rw [show ((n : Int) + 1) * G = (((n + 1) * G : Nat) : Int) by rw [Int.natCast_mul]; rfl, zw_of (by omega) (by omega)]; rfl]
      have h5e : (n + 1) * G + (5 - (n + 1)) * G = 5 * G := by rw [← Nat.add_mul]; congr 1; omega
      have l40 : ∀ k2 i : Nat, i + k2 = (5 - (n + 1)) * G → ∀ ν4 : zM, (∀ b : Int, b ≠ 128 → b ≠ 129 → ν4 b = ν3 b) → zBv ν4 128 15 (zfs (μ 1322) (μ 1322 0) law G (n + 1) * 100 ^ i) → zE X true l 6 0 0 y_Reckoner_fewest 40 [some (6, 0, 105), some (0, 0, (m : Int)), some (0, 0, (G : Int)), some (0, 0, (if zfw T n = 0 then -1 else (zfw T n : Int))), some (0, 0, (n : Int) + 1), some (0, 0, (((n + 1) * G + i : Nat) : Int))] [] ν4 (zri (fun v ν => zCi X true l d 0 0 y_M_few [(13, 0, 1320)] ν (fun w ρ => Q v w ρ))) := by
        have e5 : zw (5 * (G : Int)) = ((5 * G : Nat) : Int) := by rw [zw_of (by omega) (by omega)]; rfl
        intro k2
        induction k2 with
        | zero =>
          intro i hi ν4 s1 s2
          rw [show i = (5 - (n + 1)) * G by omega, eK (n + 1) (by omega)] at s2
          have e4b : ∀ b : Int, b ≠ 105 → b ≠ 107 → ¬ (119 ≤ b ∧ b ≤ 120) → ¬ (126 ≤ b ∧ b ≤ 131) → ν4 b = ν' b := fun b b0 b1 b2 b3 => by rw [s1 b (by omega) (by omega), t1 b b0 b2 b3, z7 b b1]
          have B4 : zBigs ν4 := by
            obtain ⟨⟨b1, b2, b3, b4, b5, b6⟩, b7⟩ := B
            have e : ∀ b : Int, 121 ≤ b ∧ b < 1320 ∧ ¬ (126 ≤ b ∧ b ≤ 131) → ν4 b = ν' b := fun b hb => e4b b (by omega) (by omega) (by omega) (by omega)
            refine ⟨⟨fun s a b => ⟨(b1 s a b).1.keep (e _ (by omega)) (e _ (by omega)), (b1 s a b).2.keep (e _ (by omega)) (e _ (by omega))⟩, ⟨b2.1.keep (e _ (by decide)) (e _ (by decide)), t6.1.keep (s1 _ (by decide) (by decide)) (s1 _ (by decide) (by decide)), s2.1, t8.1.keep (s1 _ (by decide) (by decide)) (s1 _ (by decide) (by decide)), b2.2.2.2.2.keep (e _ (by decide)) (e _ (by decide))⟩, fun n a b => ⟨(b3 n a b).1.keep (e _ (by omega)) (e _ (by omega)), (b3 n a b).2.1.keep (e _ (by omega)) (e _ (by omega)), (b3 n a b).2.2.1.keep (e _ (by omega)) (e _ (by omega)), (b3 n a b).2.2.2.keep (e _ (by omega)) (e _ (by omega))⟩, b4.keep (e _ (by decide)) (e _ (by decide)), b5.keep (e _ (by decide)) (e _ (by decide)), b6.keep (e _ (by decide)) (e _ (by decide))⟩, fun k hk => ?_⟩
            rw [e _ (by omega), e _ (by omega), e _ (by omega)]
            exact b7 k hk
          have C4 : zCd ν4 (zMd (μ 1322) (μ 1322 0) ((n : Int) + 1) 0 0) := hC.keep (fun b b0 b1 => by rw [s1 b (by omega) (by omega), t1 b (by omega) (by omega) (by omega)])
          have q46 : ν4 106 = ν 106 := by rw [s1 _ (by decide) (by decide), t1 _ (by decide) (by decide) (by decide)]; exact e106
          -- a new best: it is kept
          have set : zfw T (n + 1) = n + 1 → zCv X true l 5 0 0 y_Big_setBig [(2, 15, 105 + 27), (2, 15, 105 + 23)] ν4 (fun ν5 => zE X true l 6 0 0 y_Reckoner_fewest 5 [some (6, 0, 105), some (0, 0, (m : Int)), some (0, 0, (G : Int)), some (0, 0, (n : Int) + 1), some (0, 0, zw ((n : Int) + 1 + 1)), none] [] ν5 (zri (fun v ν => zCi X true l d 0 0 y_M_few [(13, 0, 1320)] ν (fun w ρ => Q v w ρ)))) := fun ef => by
            refine k_setBig (a := 132) (a1 := 128) (by omega) (by omega) B4.1.2.1.2.2.2.2 s2 (by decide) (fun ν5 w1 w2 => ?_)
            have c5 : zCm ν' ν5 := by
              have e : ∀ b : Int, b ≠ 105 → b ≠ 107 → ¬ (119 ≤ b ∧ b ≤ 120) → ¬ (126 ≤ b ∧ b ≤ 133) → ν5 b = ν' b := fun b b0 b1 b2 b3 => by rw [w1 b (by omega) (by omega), e4b b b0 b1 b2 (by omega)]
              refine ⟨fun b b0 b1 => e b (by omega) (by omega) (by omega) (by omega), e _ (by decide) (by decide) (by decide) (by decide), fun b b0 b1 => e b (by omega) (by omega) (by omega) (by omega), fun b b0 b1 => e b (by omega) (by omega) (by omega) (by omega), e _ (by decide) (by decide) (by decide) (by decide), by rw [e 1320 (by decide) (by decide) (by decide) (by decide)]; exact ⟨rfl, rfl, rfl, rfl⟩, ?_⟩
              obtain ⟨⟨b1, b2, b3, b4, b5, b6⟩, b7⟩ := B4
              have e' : ∀ b : Int, b ≠ 132 ∧ b ≠ 133 → ν5 b = ν4 b := fun b hb => w1 b hb.1 hb.2
              refine ⟨⟨fun s a b => ⟨(b1 s a b).1.keep (e' _ (by omega)) (e' _ (by omega)), (b1 s a b).2.keep (e' _ (by omega)) (e' _ (by omega))⟩, ⟨b2.1.keep (e' _ (by decide)) (e' _ (by decide)), b2.2.1.keep (e' _ (by decide)) (e' _ (by decide)), b2.2.2.1.keep (e' _ (by decide)) (e' _ (by decide)), b2.2.2.2.1.keep (e' _ (by decide)) (e' _ (by decide)), w2.1⟩, fun n a b => ⟨(b3 n a b).1.keep (e' _ (by omega)) (e' _ (by omega)), (b3 n a b).2.1.keep (e' _ (by omega)) (e' _ (by omega)), (b3 n a b).2.2.1.keep (e' _ (by omega)) (e' _ (by omega)), (b3 n a b).2.2.2.keep (e' _ (by omega)) (e' _ (by omega))⟩, b4.keep (e' _ (by decide)) (e' _ (by decide)), b5.keep (e' _ (by decide)) (e' _ (by decide)), b6.keep (e' _ (by decide)) (e' _ (by decide))⟩, fun k hk => ?_⟩
              rw [e' _ (by omega), e' _ (by omega), e' _ (by omega)]
              exact b7 k hk
            have nx := ih (n + 1) (by omega) ν5 (c'.trans c5) ⟨_, C4.keep (fun b b0 b1 => w1 b (by omega) (by omega))⟩ (by rw [w1 106 (by decide) (by decide)]; exact q46) (fun _ => by rw [ef]; exact w2)
            rw [ef, if_neg (by omega)] at nx
            rw [zw_of (by omega) (by omega)]
            exact nx
          refine s_Reckoner_fewest_40 (a0 := 105) (d1 := 5) (by omega) ⟨fun _ => ⟨fun e => set ?_, fun e => ?_⟩, fun c => absurd (by rw [e5]; omega) c⟩
          · rw [zfw_s]
            by_cases e2 : zfw T n = 0
            · rw [if_pos e2]
            · rw [if_neg e2] at e; omega
          · have e2 : zfw T n ≠ 0 := fun q => by rw [if_pos q] at e; exact e rfl
            have hb' := (hb e2).keep (e4b 132 (by decide) (by decide) (by decide) (by decide)) (e4b 133 (by decide) (by decide) (by decide) (by decide))
            refine k_against (a := 128) (a1 := 132) (by omega) s2 hb' ⟨fun ge => ?_, fun lt => set ?_⟩
            · have ef : zfw T (n + 1) = zfw T n := by
                rw [zfw_s, if_neg e2, if_neg]
                intro c
                have := Int.mul_lt_mul_of_pos_right c K0
                rw [if_pos this] at ge
                omega
              have c4 : zCm ν' ν4 := ⟨fun b b0 b1 => e4b b (by omega) (by omega) (by omega) (by omega), e4b _ (by decide) (by decide) (by decide) (by decide), fun b b0 b1 => e4b b (by omega) (by omega) (by omega) (by omega), fun b b0 b1 => e4b b (by omega) (by omega) (by omega) (by omega), e4b _ (by decide) (by decide) (by decide) (by decide), by rw [e4b 1320 (by decide) (by decide) (by decide) (by decide)]; exact ⟨rfl, rfl, rfl, rfl⟩, B4⟩
              have nx := ih (n + 1) (by omega) ν4 (c'.trans c4) ⟨_, C4⟩ q46 (fun _ => by rw [ef]; exact hb')
              rw [ef] at nx
              rw [zw_of (by omega) (by omega)]
              exact nx
            · rw [zfw_s, if_neg e2, if_pos]
              refine Decidable.byContradiction fun c => ?_
              have := Int.mul_le_mul_of_nonneg_right (Int.not_lt.mp c) (Int.le_of_lt K0)
              rw [if_neg (by omega)] at lt
              split at lt <;> omega
        | succ k2 ih2 =>
          intro i hi ν4 s1 s2
          have p0 : (0 : Int) < 100 ^ (i + 1) := Int.pow_pos (by decide)
          have lim : zfs (μ 1322) (μ 1322 0) law G (n + 1) * 100 ^ i * 100 < zpw 15 := by
            rw [Int.mul_assoc, ← Int.pow_succ]
            have q := Int.mul_le_mul_of_nonneg_right sb.2 (Int.le_of_lt p0)
            rw [← Int.pow_add] at q
            have := z120 (n := (n + 1) * G + (i + 1)) (by omega)
            have e : i.succ = i + 1 := rfl
            rw [e]
            omega
          refine s_Reckoner_fewest_40 (a0 := 105) (d1 := 5) (by omega) ⟨fun c => absurd c (by rw [e5]; omega), fun _ => k_timesSmall (a := 128) (by omega) (by omega) s2 (by omega) (by omega) lim (fun ν5 w1 w2 => ?_)⟩
          rw [zw_of (by omega) (by omega)]
          rw [Int.mul_assoc, ← Int.pow_succ] at w2
          exact ih2 (i + 1) (by omega) ν5 (fun b b0 b1 => (w1 b b0 b1).trans (s1 b b0 b1)) w2
      exact l40 ((5 - (n + 1)) * G) 0 (by omega) ν3 (fun _ _ _ => rfl) t7'
  refine c_Reckoner_fewest (loop m 0 (by omega) ν ⟨fun b b0 b1 => n1 b (by omega), n1 _ (by decide), fun b b0 b1 => n1 b (by omega), fun b b0 b1 => n1 b (by omega), n1 _ (by decide), by rw [n1 1320 (by decide)]; exact ⟨rfl, rfl, rfl, rfl⟩, hB.keep2 (fun b b0 b1 => n1 b (by omega))⟩ ⟨_, n2⟩ rfl (fun e => absurd rfl e))
end

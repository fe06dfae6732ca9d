section
variable {X : zX} {l : Launch} {d : Nat} {μ : zM}
theorem zshr9_nn {c all : Int} (h : 0 ≤ c) (h2 : 0 ≤ all) : 0 ≤ zshr9 c all := by
  unfold zshr9
  split
  · omega
  · exact Int.ediv_nonneg (by omega) h2
theorem k_M_prt51 {N n many : Nat} {P x4 : Int} {lw : Nat → Option zLaw} {Q : Int → zM → Prop} (hd : 7 ≤ d) (h : zInv zLR μ) (hN : μ 1322 3 = N) (hn : n < N) (hl : ∀ i : Nat, i < N → zLk μ i (lw i)) (P0 : 0 ≤ P) (P1 : P < 6) (m4 : many ≤ 4) (hQ : ∀ ν, zCm μ ν → Q (zprf (fun any => zlik (μ 1322) lw N n P any many) x4 (many + 1)) ν) : ∀ k any : Nat, any + k = many + 1 → ∀ ν : zM, zCm μ ν → zE X true l d 0 0 y_M_printed 51 [some (13, 0, 1320), some (0, 0, (n : Int)), some (0, 0, P), some (0, 0, (many : Int)), some (0, 0, x4), some (0, 0, zprf (fun any => zlik (μ 1322) lw N n P any many) x4 any), some (0, 0, (any : Int)), none] [] ν (zri Q) := by
  intro k
  induction k with
  | zero =>
    intro any ha ν c
    refine s_M_printed_51 (a0 := 1320) (d1 := 6) (by omega) ⟨fun _ => ?_, fun q => absurd (by omega) q⟩
    have e : any = many + 1 := by omega
    rw [e]
    exact hQ _ (c.trans (zCm.up c.2.2.2.2.2.2 (by decide)))
  | succ k ih =>
    intro any ha ν c
    refine s_M_printed_51 (a0 := 1320) (d1 := 6) (by omega) ⟨fun q => absurd q (by omega), fun _ => ?_⟩
    have c1 := zCm.up (j := 52) (v := P) c.2.2.2.2.2.2 (by decide)
    have c2 := zCm.up (j := 53) (v := (many : Int)) c1.2.2.2.2.2.2 (by decide)
    have c3 := zCm.up (j := 54) (v := (any : Int)) c2.2.2.2.2.2.2 (by decide)
    have c8 := ((c.trans c1).trans c2).trans c3
    have er := c8.row
    generalize hμ8 : zup (zup (zup ν 1320 52 P) 1320 53 (many : Int)) 1320 54 (any : Int) = μ8 at *
    refine k_M_lik (N := N) (n := n) (many := many) (lw := lw) (P := P) (any := (any : Int)) (by omega) (h.cm c8) (by rw [er]; exact hN) hn (fun i hi => (hl i hi).cm c8) (by rw [← hμ8]; simp [zup]) (Or.inr ⟨P0, P1⟩) (by rw [← hμ8]; simp [zup]) m4 (by rw [← hμ8]; simp [zup]) (fun ν9 c9 => ?_)
    rw [er]
    have c10 := c8.trans c9
    have nx := ih (any + 1) (by omega) ν9 c10
    rw [zw_of (by omega) (by omega)]
    have st : zprf (fun any => zlik (μ 1322) lw N n P any many) x4 (any + 1) = zpst x4 (zprf (fun any => zlik (μ 1322) lw N n P any many) x4 any) (zlik (μ 1322) lw N n P any many) := rfl
    rw [st] at nx
    unfold zpst at nx
    refine ⟨fun z => ?_, fun z => ⟨fun z2 => ⟨fun z3 => ?_, fun z3 => ?_⟩, fun z2 => ⟨fun z3 => ?_, fun z3 => ?_⟩⟩⟩
    · rw [if_pos z] at nx; exact nx
    · rw [if_neg z, if_neg z2, if_pos z3] at nx; exact nx
    · rw [if_neg z, if_neg z2, if_neg z3] at nx; exact nx
    · rw [if_neg z, if_pos z2, if_pos z3] at nx; exact nx
    · rw [if_neg z, if_pos z2, if_neg z3] at nx; exact nx
theorem k_S_prt65 {N n many : Nat} {P x4 : Int} {lw : Nat → Option zLaw} {Q : Int → zM → Prop} (hd : 7 ≤ d) (h : zInv zLR μ) (hN : μ 1322 3 = N) (hn : n < N) (P0 : 0 ≤ P) (P1 : P < 6) (m4 : many ≤ 4) (hQ : ∀ ν, zCm μ ν → Q (zprf (fun any => zlik (μ 1322) lw N n P any many) x4 (many + 1)) ν) : ∀ k any : Nat, any + k = many + 1 → ∀ ν : zM, zKp μ ν → ν 104 1 = N → (∀ i : Nat, i < N → zBv ν (1116 + 8 * i) 170 (zcou (μ 1322) (lw i) (μ 1322 (212 + i)) 0 0 (μ 1322 4).toNat)) → (∀ i : Nat, i < N → zBv ν (1120 + 8 * i) 15 (zwhv (μ 1322) P - zstv (μ 1322) P (lw i)) ∧ zBv ν (1122 + 8 * i) 15 (zstv (μ 1322) P (lw i))) → zE X true l d 0 0 y_S_printed 65 [some (12, 0, 0), some (0, 0, (n : Int)), none, some (0, 0, (many : Int)), some (0, 0, x4), some (0, 0, zprf (fun any => zlik (μ 1322) lw N n P any many) x4 any), some (0, 0, (any : Int)), none] [] ν (zri Q) := by
  have hR := h.rb
  have r3 := hR.2.2.2.1
  have r4 := hR.2.2.2.2.1
  obtain ⟨_, _, _, _, _, _, _, _, _, _, _, _, _, _, r14, _⟩ := id hR
  intro k
  induction k with
  | zero =>
    intro any ha ν c f1 vA vW
    refine s_S_printed_65 (a0 := 0) (d1 := 6) (by omega) ⟨fun _ => ?_, fun q => absurd (by omega) q⟩
    have e : any = many + 1 := by omega
    rw [e]
    exact hQ _ c.cm
  | succ k ih =>
    intro any ha ν c f1 vA vW
    refine s_S_printed_65 (a0 := 0) (d1 := 6) (by omega) ⟨fun q => absurd q (by omega), fun _ => ?_⟩
    simp only [Int.reduceAdd]
    obtain ⟨no, hno⟩ : ∃ no : Nat, any + no = many := ⟨many - any, by omega⟩
    rw [zw_of (x := (many : Int) - any) (by omega) (by omega), show (many : Int) - any = (no : Int) by omega]
    refine k_suppose (N := N) (T := (μ 1322 4).toNat) (P := P) (ρ := μ 1322) (wg := fun i => μ 1322 (212 + i)) (lw := lw) (by omega) hR (fun i hi => by have := r14 (212 + i) (by omega) (by omega); omega) (by omega) P0 P1 (by omega) (by omega) c.2 f1 vA vW (fun ν2 q1 q2 q3 => ?_)
    rw [hno] at q3
    refine k_share (N := N) (n := n) (c := fun i => zcou (μ 1322) (lw i) (μ 1322 (212 + i)) P any ((μ 1322 4).toNat + many)) (by omega) q2 (by rw [q1 104 (by decide) (by decide) (by decide)]; exact f1) (by omega) hn q3 (fun i hi => zcou_top hR (by omega) (Or.inr ⟨P0, P1⟩) m4) (fun ν4 s1 s2 => ?_)
    have f : ∀ b : Int, ¬ (1110 ≤ b ∧ b ≤ 1115) → ¬ (1118 ≤ b ∧ b < 1148 ∧ (b - 1118) % 8 ≤ 1) → ν4 b = ν b := fun b b0 b1 => (s1 b b0).trans (q1 b (by omega) (by omega) b1)
    have nx := ih (any + 1) (by omega) ν4 ⟨fun b hb => (f b (by omega) (by omega)).trans (c.1 b hb), s2⟩ (by rw [f 104 (by decide) (by decide)]; exact f1) (fun i hi => (vA i hi).keep (f _ (by omega) (by omega)) (f _ (by omega) (by omega))) (fun i hi => ⟨(vW i hi).1.keep (f _ (by omega) (by omega)) (f _ (by omega) (by omega)), (vW i hi).2.keep (f _ (by omega) (by omega)) (f _ (by omega) (by omega))⟩)
    rw [zw_of (by omega) (by omega)]
    have st : zprf (fun any => zlik (μ 1322) lw N n P any many) x4 (any + 1) = zpst x4 (zprf (fun any => zlik (μ 1322) lw N n P any many) x4 any) (zlik (μ 1322) lw N n P any many) := rfl
    rw [st] at nx
    unfold zpst at nx
    refine ⟨fun z => ?_, fun z => ⟨fun z2 => ⟨fun (z3 : zprf (fun any => zlik (μ 1322) lw N n P any many) x4 any ≤ zlik (μ 1322) lw N n P any many) => ?_, fun (z3 : ¬ zprf (fun any => zlik (μ 1322) lw N n P any many) x4 any ≤ zlik (μ 1322) lw N n P any many) => ?_⟩, fun z2 => ⟨fun (z3 : zlik (μ 1322) lw N n P any many ≤ zprf (fun any => zlik (μ 1322) lw N n P any many) x4 any) => ?_, fun (z3 : ¬ zlik (μ 1322) lw N n P any many ≤ zprf (fun any => zlik (μ 1322) lw N n P any many) x4 any) => ?_⟩⟩⟩
    · rw [if_pos z] at nx; exact nx
    · rw [if_neg z, if_neg z2, if_pos z3] at nx; exact nx
    · rw [if_neg z, if_neg z2, if_neg z3] at nx; exact nx
    · rw [if_neg z, if_pos z2, if_pos z3] at nx; exact nx
    · rw [if_neg z, if_pos z2, if_neg z3] at nx; exact nx
theorem p_printed {Q : Int → Int → zM → Prop} {x1 x2 x3 x4 : Int} (h : zInv zLR μ) (hd : 8 ≤ d) (hQ : ∀ v ρ, zInv zLR ρ → Q v v ρ) : zCi X true l d 0 0 y_S_printed [(12, 0, 0), (0, 0, x1), (0, 0, x2), (0, 0, x3), (0, 0, x4)] μ (fun v ν => zCi X true l d 0 0 y_M_printed [(13, 0, 1320), (0, 0, x1), (0, 0, x2), (0, 0, x3), (0, 0, x4)] ν (fun w ρ => Q v w ρ)) := by
  have hR := h.rb
  have r3 := hR.2.2.2.1
  obtain ⟨N, hN⟩ : ∃ N : Nat, μ 1322 3 = N := ⟨(μ 1322 3).toNat, by omega⟩
  obtain ⟨lw, hl⟩ := h.lawsOf hN
  have e7 : μ 1 7 = N := (h.num 3 (by decide) (a := 0) (s := 7) rfl (by decide)).trans hN
  have ref : ∀ (v : Int) (ν : zM), zCm μ ν → (((0 ≤ x1 ∧ x1 < N) ∧ (0 ≤ x2 ∧ x2 < 6) ∧ (0 ≤ x3 ∧ x3 ≤ 4) ∧ (0 ≤ x4 ∧ x4 ≤ 1)) → v = zprf (fun any => zlik (μ 1322) lw N x1.toNat x2 any x3.toNat) x4 (x3.toNat + 1)) → (¬ ((0 ≤ x1 ∧ x1 < N) ∧ (0 ≤ x2 ∧ x2 < 6) ∧ (0 ≤ x3 ∧ x3 ≤ 4) ∧ (0 ≤ x4 ∧ x4 ≤ 1)) → v = -1) → zCi X true l d 0 0 y_M_printed [(13, 0, 1320), (0, 0, x1), (0, 0, x2), (0, 0, x3), (0, 0, x4)] ν (fun w ρ => Q v w ρ) := by
    intro v ν cν hv hv2
    have c8 := cν.trans (zCm.up (j := 0) (v := 0) cν.2.2.2.2.2.2 (by decide))
    have er := c8.row
    have no : (¬ ((0 ≤ x1 ∧ x1 < N) ∧ (0 ≤ x2 ∧ x2 < 6) ∧ (0 ≤ x3 ∧ x3 ≤ 4) ∧ (0 ≤ x4 ∧ x4 ≤ 1))) → Q v (-1) (zup ν 1320 0 0) := fun c => by rw [hv2 c]; exact hQ _ _ (h.cm c8)
    refine c_M_printed (a0 := 1320) (d1 := 7) (by omega) (k_M_isLaw (by omega) (by rw [er]; omega) (fun a b => ⟨fun c => absurd c (by decide), fun _ => k_M_isPlan (by omega) (fun a2 b2 => ⟨fun c => absurd c (by decide), fun _ => k_M_in (fun a3 b3 => ⟨fun c => absurd c (by decide), fun _ => k_M_in (fun a4 b4 => ⟨fun _ => ?_, fun c => absurd c (by decide)⟩) (fun c => ⟨fun q => absurd rfl q, fun _ => no (fun q => c q.2.2.2)⟩)⟩) (fun c => ⟨fun _ => no (fun q => c q.2.2.1), fun q => absurd rfl q⟩)⟩) (fun c => ⟨fun _ => no (fun q => c q.2.1), fun q => absurd rfl q⟩)⟩) (fun c => ⟨fun _ => no (fun q => c (by rw [er]; omega)), fun q => absurd rfl q⟩))
    rw [er] at b
    obtain ⟨n, rfl⟩ : ∃ n : Nat, x1 = n := ⟨x1.toNat, by omega⟩
    obtain ⟨m, rfl⟩ : ∃ m : Nat, x3 = m := ⟨x3.toNat, by omega⟩
    have hv := hv ⟨⟨by omega, by omega⟩, ⟨a2, b2⟩, ⟨a3, b3⟩, ⟨a4, b4⟩⟩
    rw [Int.toNat_natCast, Int.toNat_natCast] at hv
    refine k_M_prt51 (N := N) (n := n) (many := m) (P := x2) (x4 := x4) (lw := lw) (by omega) (h.cm c8) (by rw [er]; exact hN) (by omega) (fun i hi => (hl i hi).cm c8) a2 b2 (by omega) (fun ν9 c9 => ?_) (m + 1) 0 (by omega) _ (zCm.refl (h.cm c8))
    rw [er, ← hv]
    exact hQ _ _ (h.cm (c8.trans c9))
  have no : (¬ ((0 ≤ x1 ∧ x1 < N) ∧ (0 ≤ x2 ∧ x2 < 6) ∧ (0 ≤ x3 ∧ x3 ≤ 4) ∧ (0 ≤ x4 ∧ x4 ≤ 1))) → zCi X true l d 0 0 y_M_printed [(13, 0, 1320), (0, 0, x1), (0, 0, x2), (0, 0, x3), (0, 0, x4)] μ (fun w ρ => Q (-1) w ρ) := fun c => ref (-1) μ (zCm.refl h) (fun q => absurd q c) (fun _ => rfl)
  refine c_S_printed (a0 := 0) (d1 := 7) (by omega) (k_S_isLaw (fun p q r => ⟨fun c => absurd c (by decide), fun _ => k_S_isPlan (fun a2 b2 => ⟨fun c => absurd c (by decide), fun _ => k_S_within (fun a3 b3 => ⟨fun c => absurd c (by decide), fun _ => k_S_within (fun a4 b4 => ⟨fun _ => ?_, fun c => absurd c (by decide)⟩) (fun c => ⟨fun q => absurd rfl q, fun _ => no (fun q => c q.2.2.2)⟩)⟩) (fun c => ⟨fun _ => no (fun q => c q.2.2.1), fun q => absurd rfl q⟩)⟩) (fun c => ⟨fun _ => no (fun q => c q.2.1), fun q => absurd rfl q⟩)⟩) (fun c => ⟨fun _ => no (fun q => c (by omega)), fun q => absurd rfl q⟩))
  have good : (0 ≤ x1 ∧ x1 < N) ∧ (0 ≤ x2 ∧ x2 < 6) ∧ (0 ≤ x3 ∧ x3 ≤ 4) ∧ (0 ≤ x4 ∧ x4 ≤ 1) := ⟨⟨by omega, by omega⟩, ⟨a2, b2⟩, ⟨a3, b3⟩, ⟨a4, b4⟩⟩
  obtain ⟨n, hn⟩ : ∃ n : Nat, x1 = n := ⟨x1.toNat, by omega⟩
  obtain ⟨m, hm⟩ : ∃ m : Nat, x3 = m := ⟨x3.toNat, by omega⟩
  simp only [Int.reduceAdd]
  refine k_load (by omega) h hN hl (fun ν5 k5 n5 v5 => ?_)
  have e5 : ν5 1322 = μ 1322 := k5.1 _ (by decide)
  refine k_loadUnprinted (N := N) (lw := lw) (by omega) (h.cm k5.cm) (by omega) a2 b2 n5 (fun i hi => (hl i hi).cm k5.cm) (fun ν7 k7 n7 f7 v7 => ?_)
  rw [e5] at v7
  have fin := k_S_prt65 (X := X) (l := l) (d := d) (N := N) (n := n) (many := m) (P := x2) (x4 := x4) (lw := lw) (Q := fun v ν => zCi X true l d 0 0 y_M_printed [(13, 0, 1320), (0, 0, x1), (0, 0, x2), (0, 0, x3), (0, 0, x4)] ν (fun w ρ => Q v w ρ)) (by omega) h hN (by omega) a2 b2 (by omega) (fun ν9 c9 => ref _ ν9 c9 (fun _ => by rw [hn, hm, Int.toNat_natCast, Int.toNat_natCast]) (fun c => absurd good c)) (m + 1) 0 (by omega) ν7 (k5.trans k7) n7 (fun i hi => (v5 i hi).1.keep (f7 i (by omega) (by omega) _ (by omega) (by omega)) (f7 i (by omega) (by omega) _ (by omega) (by omega))) v7
  rw [← hn, ← hm] at fin
  exact fin
end

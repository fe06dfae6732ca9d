/-! likely, printed: the pairs -/
section
variable {X : zX} {l : Launch} {d : Nat} {μ : zM}
theorem zCm.lik {μ ν : zM} (hB : zBigs μ) (h1 : ∀ b : Int, b ≠ 1320 → ¬ (1331 ≤ b ∧ b ≤ 1335) → ¬ (1344 ≤ b ∧ b ≤ 1347) → ν b = μ b) (h2 : ∀ j : Int, j ≠ 24 → j ≠ 27 → j ≠ 28 → j ≠ 29 → j ≠ 30 → j ≠ 31 → j ≠ 32 → j ≠ 33 → j ≠ 34 → ν 1320 j = μ 1320 j) : zCm μ ν :=
  ⟨fun b b0 b1 => h1 b (by omega) (by omega) (by omega), h1 _ (by decide) (by decide) (by decide), fun b b0 b1 => h1 b (by omega) (by omega) (by omega), fun b b0 b1 => h1 b (by omega) (by omega) (by omega), h1 _ (by decide) (by decide) (by decide), ⟨h2 1 (by decide) (by decide) (by decide) (by decide) (by decide) (by decide) (by decide) (by decide) (by decide), h2 7 (by decide) (by decide) (by decide) (by decide) (by decide) (by decide) (by decide) (by decide) (by decide), h2 12 (by decide) (by decide) (by decide) (by decide) (by decide) (by decide) (by decide) (by decide) (by decide), h2 45 (by decide) (by decide) (by decide) (by decide) (by decide) (by decide) (by decide) (by decide) (by decide)⟩, hB.keep (fun b b0 b1 => h1 b (by omega) (by omega) (by omega))⟩
theorem zCm.up {j v : Int} (h : zBigs μ) (h1 : j ≠ 1 ∧ j ≠ 7 ∧ j ≠ 12 ∧ j ≠ 45) : zCm μ (zup μ 1320 j v) := ⟨fun b b0 b1 => zup_ne (by omega), zup_ne (by decide), fun b b0 b1 => zup_ne (by omega), fun b b0 b1 => zup_ne (by omega), zup_ne (by decide), ⟨zup_miss (by omega), zup_miss (by omega), zup_miss (by omega), zup_miss (by omega)⟩, h.keep (fun b b0 b1 => zup_ne (by omega))⟩
/-- a law's share, when as many are supposed -/
def zlik (ρ : Int → Int) (lw : Nat → Option zLaw) (N n : Nat) (P any : Int) (many : Nat) : Int := zshr9 (zcou ρ (lw n) (ρ (212 + n)) P any ((ρ 4).toNat + many)) (ztot (fun i => zcou ρ (lw i) (ρ (212 + i)) P any ((ρ 4).toNat + many)) N)
theorem ztot_congr {c c' : Nat → Int} : ∀ n : Nat, (∀ i : Nat, i < n → c i = c' i) → ztot c n = ztot c' n
  | 0, _ => rfl
  | n + 1, h => by
    unfold ztot
    rw [ztot_congr n (fun i hi => h i (by omega)), h n (by omega)]
theorem zlik_free {ρ : Int → Int} {lw : Nat → Option zLaw} {N n : Nat} {P any : Int} (h : zRB ρ) : zlik ρ lw N n P any 0 = zlik ρ lw N n 0 0 0 := by
  have r4 := h.2.2.2.2.1
  unfold zlik
  rw [Nat.add_zero, zcou_free _ (by omega), ztot_congr N (fun i hi => zcou_free (ρ := ρ) (law := lw i) (wg := ρ (212 + i)) (hid := P) (hAny := any) (ρ 4).toNat (by omega))]
theorem k_M_lik {N n many : Nat} {P any : Int} {lw : Nat → Option zLaw} {Q : Int → zM → Prop} (hd : 6 ≤ d) (h : zInv zLR μ) (hN : μ 1322 3 = N) (hn : n < N) (hl : ∀ i : Nat, i < N → zLk μ i (lw i)) (e52 : μ 1320 52 = P) (hP : many = 0 ∨ (0 ≤ P ∧ P < 6)) (e53 : μ 1320 53 = many) (m4 : many ≤ 4) (e54 : μ 1320 54 = any) (hQ : ∀ ν, zCm μ ν → Q (zlik (μ 1322) lw N n P any many) ν) : zCi X true l d 0 0 y_M_likelyOf [(13, 0, 1320), (0, 0, (n : Int))] μ Q := by
  refine k_M_likelyOf (n := (n : Int)) (lw := lw) (hM := many) hd h.rb hN (by omega) (by omega) (fun i hi => (hl i hi).2) e52 hP e53 m4 e54 (fun ν n1 n2 => ?_)
  rw [Int.toNat_natCast]
  exact hQ ν (zCm.lik h.2.2.2.2.2.2.2.2 n1 n2)
theorem zcou_top {ρ : Int → Int} {law : Option zLaw} {P any : Int} {i m : Nat} (h : zRB ρ) (hi : i < 4) (hP : m = 0 ∨ (0 ≤ P ∧ P < 6)) (m4 : m ≤ 4) : zcou ρ law (ρ (212 + i)) P any ((ρ 4).toNat + m) ≤ 100 ^ 721 := by
  have r4 := h.2.2.2.2.1
  obtain ⟨_, _, _, _, _, _, _, _, _, _, _, _, _, _, r14, _⟩ := id h
  have wb := r14 (212 + i) (by omega) (by omega)
  have b := zcou_bd (law := law) (hid := P) (hAny := any) h (show 0 ≤ ρ (212 + i) by omega) (by omega) ((ρ 4).toNat + m) (by omega)
  have := zhm_mono (m := 60 * ((ρ 4).toNat + m) + 1) (n := 721) (by omega)
  omega
theorem p_likely {Q : Int → Int → zM → Prop} {x : Int} (h : zInv zLR μ) (hd : 7 ≤ d) (hQ : ∀ v ρ, zInv zLR ρ → Q v v ρ) : zCi X true l d 0 0 y_S_likely [(12, 0, 0), (0, 0, x)] μ (fun v ν => zCi X true l d 0 0 y_M_likely [(13, 0, 1320), (0, 0, x)] ν (fun w ρ => Q v w ρ)) := by
  have hR := h.rb
  have r3 := hR.2.2.2.1
  obtain ⟨N, hN⟩ : ∃ N : Nat, μ 1322 3 = N := ⟨(μ 1322 3).toNat, by omega⟩
  obtain ⟨lw, hl⟩ := h.lawsOf hN
  have e7 : μ 1 7 = N := (h.num 3 (by decide) (a := 0) (s := 7) rfl (by decide)).trans hN
  have two : ∀ ν : zM, zCm μ ν → zCm μ (zup (zup ν 1320 0 0) 1320 53 0) := fun ν k => (k.trans (zCm.up k.2.2.2.2.2.2 (by decide))).trans (zCm.up (zCm.up (j := 0) (v := 0) k.2.2.2.2.2.2 (by decide)).2.2.2.2.2.2 (by decide))
  refine c_S_likely (a0 := 0) (d1 := 6) (by omega) (k_S_isLaw (fun p q r => ⟨fun _ => ?_, fun c => absurd c (by decide)⟩) (fun c => ⟨fun q => absurd rfl q, fun _ => ?_⟩))
  · obtain ⟨n, rfl⟩ : ∃ n : Nat, x = n := ⟨x.toNat, by omega⟩
    simp only [Int.reduceAdd]
    refine k_load (by omega) h hN hl (fun ν5 k5 n5 v5 => ?_)
    refine k_share (N := N) (n := n) (c := fun i => zcou (μ 1322) (lw i) (μ 1322 (212 + i)) 0 0 ((μ 1322 4).toNat + 0)) (by omega) k5.2 n5 (by omega) (by omega) (fun i hi => (v5 i hi).2) (fun i hi => zcou_top hR (by omega) (Or.inl rfl) (by omega)) (fun ν7 s1 s2 => ?_)
    have c7 : zCm μ ν7 := zKp.cm ⟨fun b hb => (s1 b (by omega)).trans (k5.1 b hb), s2⟩
    have c8 := two ν7 c7
    have er := c8.row
    generalize hμ8 : zup (zup ν7 1320 0 0) 1320 53 0 = μ8 at *
    have i8 := h.cm c8
    refine c_M_likely (a0 := 1320) (d1 := 6) (by omega) ?_
    rw [hμ8]
    refine k_M_isLaw (by omega) (by rw [er]; omega) (fun _ _ => ⟨fun c => absurd c (by decide), fun _ => ?_⟩) (fun c => absurd ⟨p, by rw [er]; omega⟩ c)
    refine k_M_lik (N := N) (n := n) (many := 0) (lw := lw) (P := μ8 1320 52) (any := μ8 1320 54) (by omega) i8 (by rw [er]; exact hN) (by omega) (fun i hi => ⟨fun ν' a b => (hl i hi).1 ν' (fun b b0 b1 => (a b b0 b1).trans (c8.1 b b0 b1)) b, fun ν' a b => (hl i hi).2 ν' (by rw [a]; exact er) b⟩) rfl (Or.inl rfl) (by rw [← hμ8]; exact zup_hit) (by omega) rfl (fun ν9 c9 => ?_)
    rw [er, zlik_free hR]
    exact hQ _ _ (i8.cm c9)
  · have c8 := two μ (zCm.refl h)
    have er := c8.row
    refine c_M_likely (a0 := 1320) (d1 := 6) (by omega) (k_M_isLaw (by omega) (by rw [er]; omega) (fun a b => absurd ⟨a, by rw [er] at b; omega, by rw [er] at b; omega⟩ c) (fun _ => ⟨fun _ => hQ _ _ (h.cm c8), fun q => absurd rfl q⟩))
end

/-! likely, printed -/
theorem zcou_any {ρ : Int → Int} {law : Option zLaw} {wg P any : Int} {T i : Nat} (hT : ρ 4 = T) (hi : (i : Int) < any) : zcou ρ law wg P any (T + i + 1) = zcou ρ law wg P any (T + i) * (zwhv ρ P - zstv ρ P law) := by
  rw [zcou_s]
  unfold zfac
  rw [if_neg (by omega), if_pos (by omega)]
theorem zcou_none {ρ : Int → Int} {law : Option zLaw} {wg P any : Int} {T i : Nat} (hT : ρ 4 = T) (hi : any ≤ (i : Int)) : zcou ρ law wg P any (T + i + 1) = zcou ρ law wg P any (T + i) * zstv ρ P law := by
  rw [zcou_s]
  unfold zfac
  rw [if_neg (by omega), if_neg (by omega)]
def zpst (most best share : Int) : Int := if best = -1 then share else if most = 1 then (if share ≤ best then best else share) else (if best ≤ share then best else share)
def zprf (f : Nat → Int) (most : Int) : Nat → Int
  | 0 => -1
  | k + 1 => zpst most (zprf f most k) (f k)
section
variable {X : zX} {l : Launch} {d : Nat} {μ : zM}
theorem k_suppose {N T any none : Nat} {P : Int} {ρ wg : Int → Int} {lw : Nat → Option zLaw} {Q : zM → Prop} (hd : 4 ≤ d) (hR : zRB ρ) (hw : ∀ i : Nat, i < N → 0 ≤ wg i ∧ wg i ≤ 100) (hT : ρ 4 = T) (P0 : 0 ≤ P) (P1 : P < 6) (N4 : N ≤ 4) (h4 : any + none ≤ 4) (hB : zBigs μ) (h1 : μ 104 1 = N)
    (hA : ∀ i : Nat, i < N → zBv μ (1116 + 8 * i) 170 (zcou ρ (lw i) (wg i) 0 0 T)) (hW : ∀ i : Nat, i < N → zBv μ (1120 + 8 * i) 15 (zwhv ρ P - zstv ρ P (lw i)) ∧ zBv μ (1122 + 8 * i) 15 (zstv ρ P (lw i)))
    (hQ : ∀ ν, (∀ b : Int, b ≠ 1110 → b ≠ 1111 → ¬ (1118 ≤ b ∧ b < 1148 ∧ (b - 1118) % 8 ≤ 1) → ν b = μ b) → zBigs ν → (∀ i : Nat, i < N → zBv ν (1118 + 8 * i) 170 (zcou ρ (lw i) (wg i) P any (T + (any + none)))) → Q ν) : zCv X true l d 0 0 y_Scales_suppose [(9, 0, 104), (0, 0, (any : Int)), (0, 0, (none : Int))] μ Q := by
  have r4 := hR.2.2.2.2.1
  refine c_Scales_suppose (a0 := 104) ?_
  generalize hc : (fun (i t : Nat) => zcou ρ (lw i) (wg i) P any t) = c
  have hc' : ∀ i t : Nat, zcou ρ (lw i) (wg i) P any t = c i t := fun i t => by rw [← hc]
  have hQ' : ∀ ν, (∀ b : Int, b ≠ 1110 → b ≠ 1111 → ¬ (1118 ≤ b ∧ b < 1148 ∧ (b - 1118) % 8 ≤ 1) → ν b = μ b) → zBigs ν → (∀ i : Nat, i < N → zBv ν (1118 + 8 * i) 170 (c i (T + (any + none)))) → Q ν := fun ν a b e => hQ ν a b (fun i hi => by rw [hc']; exact e i hi)
  have cb : ∀ i t : Nat, i < N → t < T + 4 → c i t < zpw 155 := fun i t hi ht => by
    have b := zcou_bd (law := lw i) (hid := P) (hAny := (any : Int)) hR (hw i hi).1 (hw i hi).2 t (by omega)
    have lim := zhp2 (n := 60 * 11 + 1) (by omega)
    rw [hc'] at b
    have := zhm_mono (m := 60 * t + 1) (n := 60 * 11 + 1) (by omega)
    omega
  have outer : ∀ k n : Nat, n + k = N → ∀ ν : zM, (∀ b : Int, b ≠ 1110 → b ≠ 1111 → ¬ (1118 ≤ b ∧ b < 1148 ∧ (b - 1118) % 8 ≤ 1) → ν b = μ b) → zBigs ν → (∀ i : Nat, i < n → zBv ν (1118 + 8 * i) 170 (c i (T + (any + none)))) → zE X true l d 0 0 y_Scales_suppose 2 [some (9, 0, 104), some (0, 0, (any : Int)), some (0, 0, (none : Int)), some (0, 0, (n : Int)), Option.none] [] ν (zrn Q) := by
    intro k
    induction k with
    | zero =>
      intro n hn ν n1 n2 n3
      obtain rfl : n = N := by omega
      have f1 : ν 104 1 = n := by rw [n1 104 (by decide) (by decide) (by decide)]; exact h1
      exact s_Scales_suppose_2 (a0 := 104) (d1 := 3) (by omega) ⟨fun _ => hQ' ν n1 n2 n3, fun q => absurd (by omega) q⟩
    | succ k ih =>
      intro n hn ν n1 n2 n3
      have f1 : ν 104 1 = N := by rw [n1 104 (by decide) (by decide) (by decide)]; exact h1
      have bN := n2.1.2.2.1 n (by omega) (by omega)
      -- what changes in the two loops
      have fr : ∀ ν2 ν3 : zM, (∀ b : Int, b ≠ 1110 → b ≠ 1111 → b ≠ 1118 + 8 * (n : Int) → b ≠ 1118 + 8 * (n : Int) + 1 → ν3 b = ν2 b) → (∀ b : Int, b ≠ 1110 → b ≠ 1111 → ¬ (1118 ≤ b ∧ b < 1148 ∧ (b - 1118) % 8 ≤ 1) → ν2 b = μ b) → ∀ b : Int, b ≠ 1110 → b ≠ 1111 → ¬ (1118 ≤ b ∧ b < 1148 ∧ (b - 1118) % 8 ≤ 1) → ν3 b = μ b := fun ν2 ν3 a b q q0 q1 q2 => (a q q0 q1 (by omega) (by omega)).trans (b q q0 q1 q2)
      have fv : ∀ ν2 ν3 : zM, (∀ b : Int, b ≠ 1110 → b ≠ 1111 → b ≠ 1118 + 8 * (n : Int) → b ≠ 1118 + 8 * (n : Int) + 1 → ν3 b = ν2 b) → (∀ i : Nat, i < n → zBv ν2 (1118 + 8 * i) 170 (c i (T + (any + none)))) → ∀ i : Nat, i < n → zBv ν3 (1118 + 8 * i) 170 (c i (T + (any + none))) := fun ν2 ν3 a b i hi => (b i hi).keep (a _ (by omega) (by omega) (by omega) (by omega)) (a _ (by omega) (by omega) (by omega) (by omega))
      have second : ∀ j t : Nat, t + j = none → ∀ ν2 : zM, (∀ b : Int, b ≠ 1110 → b ≠ 1111 → ¬ (1118 ≤ b ∧ b < 1148 ∧ (b - 1118) % 8 ≤ 1) → ν2 b = μ b) → zBigs ν2 → (∀ i : Nat, i < n → zBv ν2 (1118 + 8 * i) 170 (c i (T + (any + none)))) → zBv ν2 (1118 + 8 * n) 170 (c n (T + (any + t))) → zE X true l d 0 0 y_Scales_suppose 70 [some (9, 0, 104), some (0, 0, (any : Int)), some (0, 0, (none : Int)), some (0, 0, (n : Int)), some (0, 0, (t : Int))] [] ν2 (zrn Q) := by
        intro j
        induction j with
        | zero =>
          intro t ht ν2 a1 a2 a3 a4
          obtain rfl : t = none := by omega
          refine s_Scales_suppose_70 (a0 := 104) (d1 := 3) (by omega) ⟨fun _ => ?_, fun q => absurd (by omega) q⟩
          rw [zw_of (by omega) (by omega)]
          refine ih (n + 1) (by omega) ν2 a1 a2 (fun i hi => ?_)
          by_cases e : i = n
          · rw [e]; exact a4
          · exact a3 i (by omega)
        | succ j ihj =>
          intro t ht ν2 a1 a2 a3 a4
          refine s_Scales_suppose_70 (a0 := 104) (d1 := 3) (by omega) ⟨fun q => absurd q (by omega), fun _ => ⟨fun q => absurd q (by omega), fun _ => ⟨by omega, by omega, ?_⟩⟩⟩
          simp only [Int.reduceAdd]
          have w := (hW n (by omega)).2.keep (a1 _ (by omega) (by omega) (by omega)) (a1 _ (by omega) (by omega) (by omega))
          refine k_multiply (a1 := 1118 + 8 * (n : Int)) (a2 := 1122 + 8 * (n : Int)) (by omega) a2.1.2.2.2.1 a4 w (by omega) (by omega) (cb n _ (by omega) (by omega)) (fun ν3 p1 p2 p3 => ?_)
          rw [zw_of (by omega) (by omega)]
          refine ihj (t + 1) (by omega) ν3 (fr ν2 ν3 p1 a1) (a2.two p1 p2 p3.1 (by omega) (by omega)) (fv ν2 ν3 p1 a3) ?_
          rw [show T + (any + (t + 1)) = T + (any + t) + 1 by omega, ← hc', zcou_none hT (by omega), hc']
          exact p3
      have first : ∀ j t : Nat, t + j = any → ∀ ν2 : zM, (∀ b : Int, b ≠ 1110 → b ≠ 1111 → ¬ (1118 ≤ b ∧ b < 1148 ∧ (b - 1118) % 8 ≤ 1) → ν2 b = μ b) → zBigs ν2 → (∀ i : Nat, i < n → zBv ν2 (1118 + 8 * i) 170 (c i (T + (any + none)))) → zBv ν2 (1118 + 8 * n) 170 (c n (T + t)) → zE X true l d 0 0 y_Scales_suppose 33 [some (9, 0, 104), some (0, 0, (any : Int)), some (0, 0, (none : Int)), some (0, 0, (n : Int)), some (0, 0, (t : Int))] [] ν2 (zrn Q) := by
        intro j
        induction j with
        | zero =>
          intro t ht ν2 a1 a2 a3 a4
          obtain rfl : t = any := by omega
          refine s_Scales_suppose_33 (a0 := 104) (d1 := 3) (by omega) ⟨fun _ => ?_, fun q => absurd (by omega) q⟩
          exact second none 0 (by omega) ν2 a1 a2 a3 a4
        | succ j ihj =>
          intro t ht ν2 a1 a2 a3 a4
          refine s_Scales_suppose_33 (a0 := 104) (d1 := 3) (by omega) ⟨fun q => absurd q (by omega), fun _ => ⟨fun q => absurd q (by omega), fun _ => ⟨by omega, by omega, ?_⟩⟩⟩
          simp only [Int.reduceAdd]
          have w := (hW n (by omega)).1.keep (a1 _ (by omega) (by omega) (by omega)) (a1 _ (by omega) (by omega) (by omega))
          refine k_multiply (a1 := 1118 + 8 * (n : Int)) (a2 := 1120 + 8 * (n : Int)) (by omega) a2.1.2.2.2.1 a4 w (by omega) (by omega) (cb n _ (by omega) (by omega)) (fun ν3 p1 p2 p3 => ?_)
          rw [zw_of (by omega) (by omega)]
          refine ihj (t + 1) (by omega) ν3 (fr ν2 ν3 p1 a1) (a2.two p1 p2 p3.1 (by omega) (by omega)) (fv ν2 ν3 p1 a3) ?_
          rw [show T + (t + 1) = T + t + 1 by omega, ← hc', zcou_any hT (by omega), hc']
          exact p3
      refine s_Scales_suppose_2 (a0 := 104) (d1 := 3) (by omega) ⟨fun q => absurd q (by omega), fun _ => ⟨fun q => absurd q (by omega), fun _ => ⟨by omega, by omega, ?_⟩⟩⟩
      simp only [Int.reduceAdd]
      have a := (hA n (by omega)).keep (n1 _ (by omega) (by omega) (by omega)) (n1 _ (by omega) (by omega) (by omega))
      refine k_setBig (a := 1118 + 8 * (n : Int)) (a1 := 1116 + 8 * (n : Int)) (by omega) (by omega) bN.2.1 a (by omega) (fun ν3 q1 q2 => ?_)
      refine first any 0 (by omega) ν3 (fr ν ν3 (fun b _ _ b2 b3 => q1 b b2 b3) n1) (n2.sc q1 q2.1 (by omega) (by omega)) (fv ν ν3 (fun b _ _ b2 b3 => q1 b b2 b3) n3) ?_
      rw [Nat.add_zero, ← hc', zcou_free T (by omega)]
      exact q2
  exact outer N 0 (by omega) μ (fun _ _ _ _ => rfl) hB (fun i hi => by omega)
theorem zInv.lawsOf {N : Nat} (h : zInv zLR μ) (hN : μ 1322 3 = N) : ∃ lw : Nat → Option zLaw, ∀ i : Nat, i < N → zLk μ i (lw i) := by
  have : ∀ i : Nat, ∃ w : Option zLaw, i < N → zLk μ i w := fun i => by
    by_cases hi : i < N
    · obtain ⟨w, hw⟩ := h.law (x := (i : Int)) (by omega)
      exact ⟨w, fun _ => hw⟩
    · exact ⟨none, fun q => absurd q hi⟩
  exact Classical.axiomOfChoice this
end

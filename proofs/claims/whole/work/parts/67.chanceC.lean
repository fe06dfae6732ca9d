/-! Scene.chanceOf -/
/-- the Scene's law -/
def zCL (μ : zM) (law : Option zLaw) : Prop := match law with
  | none => μ 106 4 < 0
  | some w => 0 ≤ μ 106 4 ∧ μ 106 4 ≤ 90 ∧ μ (μ 106 4) 0 = w.1 ∧ zLC μ (μ 106 4) w.2.1 w.2.2.1 w.2.2.2 ∧ zLW w.1 w.2.2.1 w.2.2.2
theorem zCL.keep {μ ν : zM} {law : Option zLaw} (h : zCL μ law) (hk : ∀ b : Int, b ≤ 104 ∨ b = 106 → ν b = μ b) : zCL ν law := by
  cases law with
  | none =>
    unfold zCL at h ⊢
    rw [hk 106 (by decide)]
    exact h
  | some w =>
    obtain ⟨h1, h2, h3, h4, h5⟩ := h
    unfold zCL
    rw [hk 106 (by decide)]
    exact ⟨h1, h2, by rw [hk _ (by omega)]; exact h3, h4.keep (fun b b0 b1 => hk b (by omega)), h5⟩
theorem zcs_s1 {g : Int → Int} {w : Int → Option Int} {wo : Int} {c : Nat} (h : g c = 1) : zcs g w wo (c + 1) = ((w c).getD (zcs g w wo c).1, (zcs g w wo c).2.1, (zcs g w wo c).2.2) := by
  conv => lhs; unfold zcs
  rw [if_pos h]
theorem zcs_s0 {g : Int → Int} {w : Int → Option Int} {wo : Int} {c : Nat} (h : g c = 0) : zcs g w wo (c + 1) = ((zcs g w wo c).1, (zcs g w wo c).2.1 + (if (zcs g w wo c).2.2 = wo then 0 else if 0 < (w c).getD 0 then (w c).getD 0 else 0), (zcs g w wo c).2.2 + 1) := by
  conv => lhs; unfold zcs
  rw [if_neg (by omega)]
section
variable {X : zX} {l : Launch} {d : Nat} {μ : zM} {δ : Nat → Int → Int} {law : Option zLaw} {p g s go : Int} {Q : Int → zM → Prop}
theorem k_chanceOf (hd : 2 ≤ d) (hC : zCd μ δ) (hD : zDb δ) (hW : zCL μ law) (p0 : 0 ≤ p) (p1 : p < 5) (g0 : 0 ≤ g) (g1 : g < 12) (hQ : ∀ ν, (∀ b : Int, b ≠ 119 → b ≠ 120 → ν b = μ b) → Q (zcha δ law (μ 106 5) p g s go) ν) : zCi X true l d 0 0 y_Scene_chanceOf [(10, 0, 106), (0, 0, p), (0, 0, g), (0, 0, s), (0, 0, go)] μ Q := by
  obtain ⟨c0, c1, _⟩ := hC.1 p p0 p1
  have hp : (0 : Int) ≤ p ∧ p < 5 := ⟨p0, p1⟩
  unfold zcha at hQ
  refine c_Scene_chanceOf (a0 := 106) (d1 := 1) (by omega) (k_S_isPerson (fun _ _ => ⟨fun c => absurd c (by decide), fun _ => ⟨fun c => absurd c (by omega), fun _ => ⟨fun c => absurd c (by omega), fun _ => ?_⟩⟩⟩) (fun c => absurd hp c))
  simp only [Int.reduceAdd, c0, c1]
  refine ⟨hp, fun n1 => ⟨hp, fun n2 => ?_, fun e2 => ⟨hp, ?_⟩⟩, fun e1 => ?_⟩
  · rw [if_neg n1, if_neg n2] at hQ
    cases law with
    | none =>
      refine ⟨fun c => ?_, fun _ => hQ μ (fun _ _ _ => rfl)⟩
      have : μ 106 4 < 0 := hW
      omega
    | some w =>
      obtain ⟨n, G, wt, ws⟩ := w
      obtain ⟨w1, w2, w3, w4, w5⟩ := hW
      dsimp only at w3 w4 w5 hQ
      refine ⟨fun _ => k_gather (by omega) hC hD p0 p1 g0 g1 fun ν m1 m2 => ?_, fun c => absurd c (by omega)⟩
      have gF := zfc_gf (s := s) (go := go) hD p0 p1 g0 g1
      generalize hF : zfc δ p g s go = F at *
      have wz : ∀ c v : Int, 0 ≤ c → c < n → zww wt ws F c = some v → zb9 v := fun c v h0 h1 hv => by
        unfold zww at hv
        split at hv
        · exact (w5 F c v gF h0 h1).1 hv
        · cases hv
      -- the loop over the clauses
      have loop : ∀ m c : Nat, c + m = n → ∀ ν' : zM, (∀ b : Int, b ≠ 120 → ν' b = ν b) → zE X true l d 0 0 y_Scene_chanceOf 95 [some (10, 0, 106), none, none, none, none, some (1, 0, (zcs G (zww wt ws F) (μ 106 5) c).1), none, some (1, 0, (zcs G (zww wt ws F) (μ 106 5) c).2.1), none, some (0, 0, (zcs G (zww wt ws F) (μ 106 5) c).2.2), some (0, 0, (c : Int)), none, none, none, none] [] ν' (zri Q) := by
        intro m
        induction m with
        | zero =>
          intro c hc ν' n1
          obtain rfl : c = n := by omega
          have eν : ∀ b : Int, b ≠ 119 → b ≠ 120 → ν' b = μ b := fun b b0 b1 => (n1 b b1).trans (m1 b b0)
          have e106 : ν' 106 = μ 106 := eν 106 (by decide) (by decide)
          have e0 : ν' (μ 106 4) 0 = c := by rw [eν _ (by omega) (by omega)]; exact w3
          obtain ⟨b1, b2, b3, b4, b5⟩ := zcs_bd (g := G) (wo := μ 106 5) c wz
          unfold zb9 at b1
          have w31 := w4.1
          rw [w3] at w31
          refine s_Scene_chanceOf_95 (by omega) ?_
          rw [e106]
          refine ⟨w1, fun _ => ?_, fun q => absurd (by omega) q⟩
          have := hQ ν' eν
          rw [zwl_id (by omega) (by omega)]
          have ez : zw (if (if (zcs G (zww wt ws F) (μ 106 5) c).1 - (zcs G (zww wt ws F) (μ 106 5) c).2.1 < 100 then (zcs G (zww wt ws F) (μ 106 5) c).1 - (zcs G (zww wt ws F) (μ 106 5) c).2.1 else 100) < 0 then 0 else (if (zcs G (zww wt ws F) (μ 106 5) c).1 - (zcs G (zww wt ws F) (μ 106 5) c).2.1 < 100 then (zcs G (zww wt ws F) (μ 106 5) c).1 - (zcs G (zww wt ws F) (μ 106 5) c).2.1 else 100)) = zclp ((zcs G (zww wt ws F) (μ 106 5) c).1 - (zcs G (zww wt ws F) (μ 106 5) c).2.1) := by
            generalize (zcs G (zww wt ws F) (μ 106 5) c).1 - (zcs G (zww wt ws F) (μ 106 5) c).2.1 = z
            unfold zclp
            by_cases q1 : z < 0
            · rw [if_pos q1, if_pos (show z < 100 by omega), if_pos q1]; decide
            · by_cases q2 : 100 < z
              · rw [if_neg q1, if_pos q2, if_neg (show ¬ z < 100 by omega), if_neg (by decide)]; decide
              · rw [if_neg q1, if_neg q2]
                by_cases q3 : z < 100
                · rw [if_pos q3, if_neg q1, zw_of (by omega) (by omega)]
                · rw [if_neg q3, if_neg (by decide)]
                  have : z = 100 := by omega
                  rw [this]; decide
          rw [ez]
          exact this
        | succ m ih =>
          intro c hc ν' n1
          have eν : ∀ b : Int, b ≠ 119 → b ≠ 120 → ν' b = μ b := fun b b0 b1 => (n1 b b1).trans (m1 b b0)
          have e106 : ν' 106 = μ 106 := eν 106 (by decide) (by decide)
          have e0 : ν' (μ 106 4) 0 = n := by rw [eν _ (by omega) (by omega)]; exact w3
          have w31 := w4.1
          obtain ⟨b1, b2, b3, b4, b5⟩ := zcs_bd (g := G) (wo := μ 106 5) c (fun q v q0 q1 => wz q v q0 (by omega))
          unfold zb9 at b1
          obtain ⟨⟨x1, x2⟩, ⟨x3, x4, x5, x6⟩, ⟨Ds, hDs, x7⟩, x8, x9⟩ := w4.2 c (by omega) (by omega)
          have a1 : ν' (μ 106 4 + 1) c = G c := by rw [eν _ (by omega) (by omega)]; exact x1
          have a2 : ν' (μ 106 4 + 2) c = μ (μ 106 4 + 2) c := by rw [eν _ (by omega) (by omega)]
          have a3 : ν' (μ 106 4 + 3) c = μ (μ 106 4 + 3) c := by rw [eν _ (by omega) (by omega)]
          have a4 : ν' (μ 106 4 + 4) c = μ (μ 106 4 + 4) c := by rw [eν _ (by omega) (by omega)]
          have hb : (0 : Int) ≤ c ∧ (c : Int) < 12 := by omega
          -- what the sum and the test tell, in any memory of this kind
          have hF5 : ∀ ν2 : zM, (∀ b : Int, b ≠ 120 → ν2 b = ν b) → ∀ q : Int, 0 ≤ q → q < 12 → ν2 119 q = F q := fun ν2 q1 q q0 q2 => by rw [q1 _ (by decide)]; exact m2 q q0 q2
          have evS : ∀ ν2 : zM, (∀ b : Int, b ≠ 120 → ν2 b = ν b) → zS5 (ν2 (μ 106 4 + 5)) (ν2 (μ 106 4 + 6)) (ν2 (106 + 13)) (μ (μ 106 4 + 2) c) (μ (μ 106 4 + 3) c) Ds (ws F c) := fun ν2 q1 => (x7 F gF).congr (fun s _ _ => by rw [q1 _ (by omega), q1 _ (by omega), m1 _ (by omega), m1 _ (by omega)]; exact ⟨rfl, rfl⟩) (fun q q0 q2 => hF5 ν2 q1 q q0 q2)
          -- after the test
          have s242 : ∀ (ν2 : zM) (re : Int), (∀ b : Int, b ≠ 120 → ν2 b = ν b) → wt F c = some 1 → (G c = 0 → (zcs G (zww wt ws F) (μ 106 5) c).2.2 ≠ μ 106 5) → re = (zcs G (zww wt ws F) (μ 106 5) (c + 1)).2.2 → zE X true l d 0 0 y_Scene_chanceOf 242 [some (10, 0, 106), none, none, none, none, some (1, 0, (zcs G (zww wt ws F) (μ 106 5) c).1), none, some (1, 0, (zcs G (zww wt ws F) (μ 106 5) c).2.1), none, some (0, 0, re), some (0, 0, (c : Int)), none, none, none, none] [] ν2 (zri Q) := by
            intro ν2 re q1 ht hwo hre
            have eν2 : ∀ b : Int, b ≠ 119 → b ≠ 120 → ν2 b = μ b := fun b b0 b1 => (q1 b b1).trans (m1 b b0)
            have e106' : ν2 106 = μ 106 := eν2 106 (by decide) (by decide)
            have a2' : ν2 (μ 106 4 + 2) c = μ (μ 106 4 + 2) c := by rw [eν2 _ (by omega) (by omega)]
            have a3' : ν2 (μ 106 4 + 3) c = μ (μ 106 4 + 3) c := by rw [eν2 _ (by omega) (by omega)]
            have hw : zww wt ws F c = ws F c := by unfold zww; rw [if_pos ht]
            refine s_Scene_chanceOf_242 (d1 := 1) (by omega) ?_
            rw [e106', a2', a3']
            refine ⟨w1, w1, hb, w1, hb, k_valueOf (by omega) (evS ν2 q1) hDs x3 (by omega) (by omega) (fun ν3 r1 => ?_)⟩
            have r1' : ∀ b : Int, b ≠ 120 → ν3 b = ν b := fun b hb => (r1 b hb).trans (q1 b hb)
            have eν3 : ∀ b : Int, b ≠ 119 → b ≠ 120 → ν3 b = μ b := fun b b0 b1 => (r1' b b1).trans (m1 b b0)
            have e106'' : ν3 106 = μ 106 := eν3 106 (by decide) (by decide)
            have a1' : ν3 (μ 106 4 + 1) c = G c := by rw [eν3 _ (by omega) (by omega)]; exact x1
            have nx := ih (c + 1) (by omega) ν3 r1'
            rw [e106'', a1', zw_of (x := (c : Int) + 1) (by omega) (by omega), hre]
            cases hs : ws F c with
            | none =>
              rw [hs] at hw
              refine ⟨fun q => absurd (by decide) q, fun _ => ?_⟩
              rcases x2 with x2 | x2
              · rw [zcs_s0 x2, hw] at nx
                rw [zcs_s0 x2]
                dsimp only [Option.getD_none] at nx
                simp only [Int.lt_irrefl, ite_false, ite_self, Int.add_zero] at nx
                exact nx
              · rw [zcs_s1 x2, hw] at nx
                rw [zcs_s1 x2]
                exact nx
            | some v =>
              rw [hs] at hw
              have vb := (w5 F c v gF (by omega) (by omega)).1 hs
              unfold zb9 at vb
              refine ⟨fun _ => ⟨w1, hb, fun g0 => ?_, fun g1 => ?_⟩, fun q => absurd (zcmp_e.mp q) (by show ¬ v = 2000000000; omega)⟩
              · rw [zcs_s0 g0, hw, if_neg (hwo g0)] at nx
                rw [zcs_s0 g0]
                have e : zwl ((zcs G (zww wt ws F) (μ 106 5) c).2.1 + (if v < 0 then 0 else v)) = (zcs G (zww wt ws F) (μ 106 5) c).2.1 + (if 0 < v then v else 0) := by
                  rw [zwl_id (by split <;> omega) (by split <;> omega)]
                  congr 1
                  by_cases q : v < 0
                  · rw [if_pos q, if_neg (by omega)]
                  · rw [if_neg q]
                    by_cases q2 : 0 < v
                    · rw [if_pos q2]
                    · rw [if_neg q2]; omega
                show zE X true l d 0 0 y_Scene_chanceOf 95 [some (10, 0, 106), none, none, none, none, some (1, 0, (zcs G (zww wt ws F) (μ 106 5) c).1), none, some (1, 0, zwl ((zcs G (zww wt ws F) (μ 106 5) c).2.1 + (if v < 0 then 0 else v))), none, _, _, none, none, none, none] [] ν3 (zri Q)
                rw [e]
                exact nx
              · have g1' : G c = 1 := x2.resolve_left g1
                rw [zcs_s1 g1', hw] at nx
                rw [zcs_s1 g1']
                exact nx
          -- skipped
          have skip : ∀ (ν2 : zM) (re : Int), (∀ b : Int, b ≠ 120 → ν2 b = ν b) → (zww wt ws F c = none ∨ (G c = 0 ∧ (zcs G (zww wt ws F) (μ 106 5) c).2.2 = μ 106 5)) → re = (zcs G (zww wt ws F) (μ 106 5) (c + 1)).2.2 → zE X true l d 0 0 y_Scene_chanceOf 95 [some (10, 0, 106), none, none, none, none, some (1, 0, (zcs G (zww wt ws F) (μ 106 5) c).1), none, some (1, 0, (zcs G (zww wt ws F) (μ 106 5) c).2.1), none, some (0, 0, re), some (0, 0, zw ((c : Int) + 1)), none, none, none, none] [] ν2 (zri Q) := by
            intro ν2 re q1 hsk hre
            have nx := ih (c + 1) (by omega) ν2 q1
            rw [zw_of (x := (c : Int) + 1) (by omega) (by omega), hre]
            rcases hsk with hsk | ⟨k1, k2⟩
            · rcases x2 with x2 | x2
              · rw [zcs_s0 x2, hsk] at nx
                rw [zcs_s0 x2]
                dsimp only [Option.getD_none] at nx
                simp only [Int.lt_irrefl, ite_false, ite_self, Int.add_zero] at nx
                exact nx
              · rw [zcs_s1 x2, hsk] at nx
                rw [zcs_s1 x2]
                exact nx
            · rw [zcs_s0 k1, if_pos k2, Int.add_zero] at nx
              rw [zcs_s0 k1]
              exact nx
          have hre : zw ((zcs G (zww wt ws F) (μ 106 5) c).2.2 + (if G c = 0 then (1 : Int) else 0)) = (zcs G (zww wt ws F) (μ 106 5) (c + 1)).2.2 := by
            rw [zw_of (by split <;> omega) (by split <;> omega)]
            rcases x2 with x2 | x2
            · rw [zcs_s0 x2, if_pos x2]
            · rw [zcs_s1 x2, if_neg (by omega)]; exact Int.add_zero _
          have s141 : ∀ xs : Int, (xs = 0 → (G c = 0 → (zcs G (zww wt ws F) (μ 106 5) c).2.2 ≠ μ 106 5)) → (xs ≠ 0 → (G c = 0 ∧ (zcs G (zww wt ws F) (μ 106 5) c).2.2 = μ 106 5)) → zE X true l d 0 0 y_Scene_chanceOf 141 [some (10, 0, 106), none, none, none, none, some (1, 0, (zcs G (zww wt ws F) (μ 106 5) c).1), none, some (1, 0, (zcs G (zww wt ws F) (μ 106 5) c).2.1), none, some (0, 0, (zcs G (zww wt ws F) (μ 106 5) c).2.2), some (0, 0, (c : Int)), none, none, none, none] [(0, 0, xs)] ν' (zri Q) := by
            intro xs hx0 hx1
            refine s_Scene_chanceOf_141 (d1 := 1) (by omega) ?_
            rw [e106, a1, a3, a4, hre]
            refine ⟨w1, hb, w1, hb, w1, hb, fun q => skip ν' _ n1 (Or.inr (hx1 q)) rfl, fun q => ⟨fun t => ?_, fun t => ⟨w1, w1, hb, w1, hb, ?_⟩⟩⟩
            · refine s242 ν' _ n1 (x9 ?_ F) (hx0 q) rfl
              by_cases le : μ (μ 106 4 + 4) c ≤ μ (μ 106 4 + 3) c
              · exact le
              · rw [if_neg le] at t; omega
            · have lt : μ (μ 106 4 + 3) c < μ (μ 106 4 + 4) c := by
                by_cases le : μ (μ 106 4 + 4) c ≤ μ (μ 106 4 + 3) c
                · rw [if_pos le] at t; exact absurd rfl t
                · omega
              obtain ⟨Dt, hDt, x8'⟩ := x8 lt
              have evT : zS5 (ν' (μ 106 4 + 5)) (ν' (μ 106 4 + 6)) (ν' (106 + 13)) (μ (μ 106 4 + 3) c) (μ (μ 106 4 + 4) c) Dt (wt F c) := (x8' F gF).congr (fun s _ _ => by rw [eν _ (by omega) (by omega), eν _ (by omega) (by omega)]; exact ⟨rfl, rfl⟩) (fun q q0 q2 => hF5 ν' n1 q q0 q2)
              refine k_valueOf (by omega) evT hDt x4 (by omega) (by omega) (fun ν3 r1 => ⟨fun e => ?_, fun e => ?_⟩)
              · refine s242 ν3 _ (fun b hb => (r1 b hb).trans (n1 b hb)) ?_ (hx0 q) rfl
                rw [zcmp_e] at e
                cases ht : wt F c with
                | none => rw [ht] at e; exact absurd e (by decide)
                | some v => rw [ht] at e; exact congrArg some e
              · refine skip ν3 _ (fun b hb => (r1 b hb).trans (n1 b hb)) (Or.inl ?_) rfl
                unfold zww
                rw [if_neg]
                intro ht
                rw [ht] at e
                exact e (by decide)
          refine s_Scene_chanceOf_95 (by omega) ?_
          rw [e106, a1]
          refine ⟨w1, fun q => absurd q (by omega), fun _ => ⟨fun q => absurd q (by omega), fun _ => ⟨w1, hb, fun q => s141 0 (fun _ q2 => absurd q2 q) (fun q2 => absurd rfl q2), fun q => ⟨fun q2 => s141 0 (fun _ _ => q2) (fun q3 => absurd rfl q3), fun q2 => s141 1 (fun q3 => absurd q3 (by decide)) (fun _ => ⟨q, q2⟩)⟩⟩⟩⟩
      exact loop n 0 (by omega) ν (fun _ _ => rfl)
  · rw [if_neg n1, if_pos e2] at hQ
    exact hQ μ (fun _ _ _ => rfl)
  · rw [if_pos e1] at hQ
    exact hQ μ (fun _ _ _ => rfl)
end

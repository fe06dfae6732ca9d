/-! law: the reference's reader, turn by turn -/
def zRx (X : zX) (l : Launch) (d : Nat) (μ0 : zM) (T : Int → Int) (L : Nat) (t : Int) (Q : zM → Prop) (turn : Int) (q c h dp lv : Nat) (O A P B : Int → Int) : Prop := ∀ ν, zSm μ0 ν T L q c h dp lv O A P B → zE X true l d 0 0 y_M_readExpression 20 [some (13, 0, 1320), some (0, 0, t), some (0, 0, turn)] [] ν (zrn Q)
def zRf (X : zX) (l : Launch) (d : Nat) (μ0 : zM) (t : Int) (Q : zM → Prop) (q : Nat) : Prop := ∀ turn ν, zFl9 μ0 ν q → zE X true l d 0 0 y_M_readExpression 20 [some (13, 0, 1320), some (0, 0, t), some (0, 0, turn)] [] ν (zrn Q)
def zno4 (T : Int → Int) (L q : Nat) : Prop := ¬ zsg T L q 43 ∧ ¬ zsg T L q 45 ∧ ¬ zsg T L q 42 ∧ ¬ zsg T L q 47
theorem zinn_up {P : Int → Int} {h : Nat} : ∀ m : Nat, (∀ j : Int, (h : Int) ≤ j → j < ((h + m : Nat) : Int) → P j < 30) → zinn P (h + m) = zinn P h
  | 0, _ => rfl
  | m + 1, e => by
    show (if P ((h + m : Nat) : Int) < 30 then zinn P (h + m) else P ((h + m : Nat) : Int)) = _
    rw [if_pos (e _ (by omega) (by omega))]
    exact zinn_up m (fun j h1 h2 => e j h1 (by omega))
theorem zcom_up {P : Int → Int} {h : Nat} : ∀ m : Nat, (∀ j : Int, (h : Int) ≤ j → j < ((h + m : Nat) : Int) → 20 ≤ P j ∧ P j ≤ 23) → zcom P (h + m) = zcom P h
  | 0, _ => rfl
  | m + 1, e => by
    show (if 20 ≤ P ((h + m : Nat) : Int) ∧ P ((h + m : Nat) : Int) ≤ 23 then zcom P (h + m) else _) = _
    rw [if_pos (e _ (by omega) (by omega))]
    exact zcom_up m (fun j h1 h2 => e j h1 (by omega))
theorem zbi_rng {op : Int} : (1 ≤ zbi op → op < 30) ∧ (5 ≤ zbi op → op < 24) ∧ zbi op < 7 := by
  unfold zbi
  split
  · split
    · omega
    split
    · omega
    split
    · omega
    split
    · split <;> omega
    · omega
  · omega
section
variable {X : zX} {l : Launch} {d : Nat} {μ0 μ : zM} {T : Int → Int} {L q c h dp lv : Nat} {O A P B : Int → Int} {t : Int} {Q : zM → Prop}
theorem k_M_partAt {Q : Int → zM → Prop} (hd : 1 ≤ d) (k : zTm μ T L q) (hQ : Q (if zwh T L q = -1 then -1 else zwh T L q + 1) μ) : zCi X true l d 0 0 y_M_partAt [(13, 0, 1320)] μ Q := by
  have yes : ∀ j : Int, 0 ≤ j → zwh T L q = j → Q (j + 1) μ := fun j h0 e => by rw [if_neg (by omega), e] at hQ; exact hQ
  have nop : zwh T L q = -1 → Q (-1) μ := fun e => by rw [if_pos e] at hQ; exact hQ
  have g0 : ¬ ziw T L q 632645 → zwh T L q = zwi T L q 11 1 := fun n => zwi_no (j := 0) n
  have g1 : ¬ ziw T L q 20587916 → zwi T L q 11 1 = zwi T L q 10 2 := fun n => zwi_no (j := 1) n
  have g2 : ¬ ziw T L q 20588115 → zwi T L q 10 2 = zwi T L q 9 3 := fun n => zwi_no (j := 2) n
  have g3 : ¬ ziw T L q 245189 → zwi T L q 9 3 = zwi T L q 8 4 := fun n => zwi_no (j := 3) n
  have g4 : ¬ ziw T L q 8554052 → zwi T L q 8 4 = zwi T L q 7 5 := fun n => zwi_no (j := 4) n
  have g5 : ¬ ziw T L q 7056046227 → zwi T L q 7 5 = zwi T L q 6 6 := fun n => zwi_no (j := 5) n
  have g6 : ¬ ziw T L q 247511141 → zwi T L q 6 6 = zwi T L q 5 7 := fun n => zwi_no (j := 6) n
  have g7 : ¬ ziw T L q 370116 → zwi T L q 5 7 = zwi T L q 4 8 := fun n => zwi_no (j := 7) n
  have g8 : ¬ ziw T L q 40437028 → zwi T L q 4 8 = zwi T L q 3 9 := fun n => zwi_no (j := 8) n
  have g9 : ¬ ziw T L q 20293004 → zwi T L q 3 9 = zwi T L q 2 10 := fun n => zwi_no (j := 9) n
  have g10 : ¬ ziw T L q 1682596 → zwi T L q 2 10 = zwi T L q 1 11 := fun n => zwi_no (j := 10) n
  have g11 : ¬ ziw T L q 1457605 → zwi T L q 1 11 = -1 := fun n => zwi_no (j := 11) n
  have y0 : ziw T L q 632645 → zwh T L q = 0 := fun n => zwi_yes (j := 0) n
  have y1 : ziw T L q 20587916 → zwi T L q 11 1 = 1 := fun n => zwi_yes (j := 1) n
  have y2 : ziw T L q 20588115 → zwi T L q 10 2 = 2 := fun n => zwi_yes (j := 2) n
  have y3 : ziw T L q 245189 → zwi T L q 9 3 = 3 := fun n => zwi_yes (j := 3) n
  have y4 : ziw T L q 8554052 → zwi T L q 8 4 = 4 := fun n => zwi_yes (j := 4) n
  have y5 : ziw T L q 7056046227 → zwi T L q 7 5 = 5 := fun n => zwi_yes (j := 5) n
  have y6 : ziw T L q 247511141 → zwi T L q 6 6 = 6 := fun n => zwi_yes (j := 6) n
  have y7 : ziw T L q 370116 → zwi T L q 5 7 = 7 := fun n => zwi_yes (j := 7) n
  have y8 : ziw T L q 40437028 → zwi T L q 4 8 = 8 := fun n => zwi_yes (j := 8) n
  have y9 : ziw T L q 20293004 → zwi T L q 3 9 = 9 := fun n => zwi_yes (j := 9) n
  have y10 : ziw T L q 1682596 → zwi T L q 2 10 = 10 := fun n => zwi_yes (j := 10) n
  have y11 : ziw T L q 1457605 → zwi T L q 1 11 = 11 := fun n => zwi_yes (j := 11) n
  have p30 : (¬ ziw T L q 632645 → ¬ ziw T L q 20587916 → ziw T L q 20588115) → zE X true l d 0 0 y_M_partAt 30 [some (13, 0, 1320)] [] μ (zri Q) := fun e => by
    refine s_M_partAt_30 (d1 := d - 1) (by omega) (k_M_isWord k (fun a => ⟨fun z => absurd z (by decide), fun _ => yes 0 (by decide) (y0 a)⟩) (fun a => ⟨fun _ => k_M_isWord k (fun b => yes 1 (by decide) ((g0 a).trans (y1 b))) (fun b => yes 2 (by decide) ((g0 a).trans ((g1 b).trans (y2 (e a b))))), fun z => absurd rfl z⟩))
  have p90 : zwh T L q = zwi T L q 9 3 → (¬ ziw T L q 245189 → ¬ ziw T L q 8554052 → ziw T L q 7056046227) → zE X true l d 0 0 y_M_partAt 90 [some (13, 0, 1320)] [] μ (zri Q) := fun s e => by
    refine s_M_partAt_90 (d1 := d - 1) (by omega) (k_M_isWord k (fun a => ⟨fun z => absurd z (by decide), fun _ => yes 3 (by decide) (s.trans (y3 a))⟩) (fun a => ⟨fun _ => k_M_isWord k (fun b => yes 4 (by decide) (s.trans ((g3 a).trans (y4 b)))) (fun b => yes 5 (by decide) (s.trans ((g3 a).trans ((g4 b).trans (y5 (e a b)))))), fun z => absurd rfl z⟩))
  have p151 : zwh T L q = zwi T L q 6 6 → (¬ ziw T L q 247511141 → ¬ ziw T L q 370116 → ziw T L q 40437028) → zE X true l d 0 0 y_M_partAt 151 [some (13, 0, 1320)] [] μ (zri Q) := fun s e => by
    refine s_M_partAt_151 (d1 := d - 1) (by omega) (k_M_isWord k (fun a => ⟨fun z => absurd z (by decide), fun _ => yes 6 (by decide) (s.trans (y6 a))⟩) (fun a => ⟨fun _ => k_M_isWord k (fun b => yes 7 (by decide) (s.trans ((g6 a).trans (y7 b)))) (fun b => yes 8 (by decide) (s.trans ((g6 a).trans ((g7 b).trans (y8 (e a b)))))), fun z => absurd rfl z⟩))
  refine c_M_partAt (a0 := 1320) (d1 := d - 1) (by omega) ?_
  refine k_M_isWord k (fun a => ⟨fun _ => p30 (fun z => absurd a z), fun z => absurd z (by decide)⟩) (fun a0 => ⟨fun z => absurd rfl z, fun _ => ?_⟩)
  refine k_M_isWord k (fun a => ⟨fun _ => p30 (fun _ z => absurd a z), fun z => absurd z (by decide)⟩) (fun a1 => ⟨fun z => absurd rfl z, fun _ => ?_⟩)
  refine k_M_isWord k (fun a => ⟨fun z => absurd z (by decide), fun _ => p30 (fun _ _ => a)⟩) (fun a2 => ⟨fun _ => ?_, fun z => absurd rfl z⟩)
  have s3 := (g0 a0).trans ((g1 a1).trans (g2 a2))
  refine k_M_isWord k (fun a => ⟨fun _ => p90 s3 (fun z => absurd a z), fun z => absurd z (by decide)⟩) (fun a0 => ⟨fun z => absurd rfl z, fun _ => ?_⟩)
  refine k_M_isWord k (fun a => ⟨fun _ => p90 s3 (fun _ z => absurd a z), fun z => absurd z (by decide)⟩) (fun a1 => ⟨fun z => absurd rfl z, fun _ => ?_⟩)
  refine k_M_isWord k (fun a => ⟨fun z => absurd z (by decide), fun _ => p90 s3 (fun _ _ => a)⟩) (fun a2 => ⟨fun _ => ?_, fun z => absurd rfl z⟩)
  have s6 := s3.trans ((g3 a0).trans ((g4 a1).trans (g5 a2)))
  refine k_M_isWord k (fun a => ⟨fun _ => p151 s6 (fun z => absurd a z), fun z => absurd z (by decide)⟩) (fun a0 => ⟨fun z => absurd rfl z, fun _ => ?_⟩)
  refine k_M_isWord k (fun a => ⟨fun _ => p151 s6 (fun _ z => absurd a z), fun z => absurd z (by decide)⟩) (fun a1 => ⟨fun z => absurd rfl z, fun _ => ?_⟩)
  refine k_M_isWord k (fun a => ⟨fun z => absurd z (by decide), fun _ => p151 s6 (fun _ _ => a)⟩) (fun a2 => ⟨fun _ => ?_, fun z => absurd rfl z⟩)
  have s9 := s6.trans ((g6 a0).trans ((g7 a1).trans (g8 a2)))
  refine k_M_isWord k (fun a => ⟨fun z => absurd z (by decide), fun _ => yes 9 (by decide) (s9.trans (y9 a))⟩) (fun a0 => ⟨fun _ => ?_, fun z => absurd rfl z⟩)
  refine k_M_isWord k (fun a => ⟨fun z => absurd z (by decide), fun _ => yes 10 (by decide) (s9.trans ((g9 a0).trans (y10 a)))⟩) (fun a1 => ⟨fun _ => ?_, fun z => absurd rfl z⟩)
  exact k_M_isWord k (fun a => yes 11 (by decide) (s9.trans ((g9 a0).trans ((g10 a1).trans (y11 a))))) (fun a2 => nop (s9.trans ((g9 a0).trans ((g10 a1).trans (g11 a2)))))
theorem kS_leaf {x op b : Int} (hd : 3 ≤ d) (k : zSm μ0 μ T L q c h dp lv O A P B) (v : zVd c h B) (c4 : c < 400) (h1 : x ≠ 0 → lv < 50 → ∀ ν, zSm μ0 ν T L (znx T L q) (c + 1) h dp (lv + 1) (zsu O c op) (zsu A c b) P B → Q ν) (h0 : x = 0 ∨ ¬ lv < 50 → ∀ ν, zFl9 μ0 ν q → Q ν) : zCv X true l d 0 0 y_M_leaf [(13, 0, 1320), (0, 0, x), (0, 0, op), (0, 0, b)] μ Q := by
  have k7 := k.2.2.2.2.2.2.1
  have bad : x = 0 ∨ ¬ lv < 50 → zE X true l d 0 0 y_M_leaf 19 [some (13, 0, 1320), none, some (0, 0, op), some (0, 0, b)] [(0, 0, 0), (13, 0, 1320)] μ (zrn Q) := fun e => by
    refine s_M_leaf_19 (a0 := 1320) (d1 := d - 1) (by omega) (kS_must (by omega) k v (fun z => absurd rfl z) (fun _ ν f => ⟨fun _ => h0 e ν f, fun z => ?_⟩))
    have := f.2.1
    rw [this] at z
    exact absurd z (by decide)
  refine c_M_leaf (a0 := 1320) ⟨fun e => bad (Or.inl e), fun e => ⟨fun e2 => bad (Or.inr (by rw [k7] at e2; omega)), fun e2 => ?_⟩⟩
  rw [k7] at e2
  refine s_M_leaf_19 (a0 := 1320) (d1 := d - 1) (by omega) (kS_must (by omega) k v (fun _ ν f => ⟨fun z => absurd f.2.2.1 z, fun _ => kS_emit f c4 (fun ν2 f2 => h1 e (by omega) _ ?_)⟩) (fun z => absurd z (by decide)))
  obtain ⟨k1, k2, k3, k4, k5, k6, k7', k8, k9, k10, k11⟩ := f2
  rw [k7', zw_of (by omega) (by omega)]
  refine ⟨k1.up (by simp), k2.up (by simp), ?_, ?_, ?_, ?_, zup_hit, ?_, ?_, ?_, ?_⟩
  · rw [zup_miss (by decide)]; exact k3
  · rw [zup_miss (by decide)]; exact k4
  · rw [zup_miss (by decide)]; exact k5
  · rw [zup_miss (by decide)]; exact k6
  · rw [zup_ne (by decide)]; exact k8
  · rw [zup_ne (by decide)]; exact k9
  · rw [zup_ne (by decide)]; exact k10
  · rw [zup_ne (by decide)]; exact k11
theorem kS_open {op : Int} (hd : 3 ≤ d) (k : zSm μ0 μ T L q c h dp lv O A P B) (v : zVd c h B) (h4 : h < 400) (hp : dp ≤ 8) (h1 : dp < 8 → ∀ ν, zSm μ0 ν T L (znx T L q) c (h + 1) (dp + 1) lv O A (zsu P h op) (zsu B h 0) → Q ν) (h0 : ¬ dp < 8 → ∀ ν, zFl9 μ0 ν q → Q ν) : zCv X true l d 0 0 y_M_openBracket [(13, 0, 1320), (0, 0, op)] μ Q := by
  have k6 := k.2.2.2.2.2.1
  refine c_M_openBracket (a0 := 1320) (d1 := d - 1) (by omega) ?_
  rw [k6]
  refine kS_must (by omega) k v (fun e ν f => ⟨fun z => absurd f.2.2.1 z, fun _ => ?_⟩) (fun e ν f => ⟨fun _ => h0 (fun z => ?_) ν f, fun z => ?_⟩)
  · have e8 : dp < 8 := by
      refine Decidable.byContradiction (fun z => e ?_)
      rw [if_pos (by omega)]
    have f6 := f.2.2.2.2.2.1
    rw [f6, zw_of (by omega) (by omega)]
    refine kS_push (μ0 := μ0) (T := T) (L := L) (q := znx T L q) (c := c) (h := h) (dp := dp + 1) (lv := lv) (O := O) (A := A) (P := P) (B := B) ?_ h4 (h1 e8)
    obtain ⟨k1, k2, k3, k4, k5, k6, k7', k8, k9, k10, k11⟩ := f
    refine ⟨k1.up (by simp), k2.up (by simp), ?_, ?_, ?_, zup_hit, ?_, ?_, ?_, ?_, ?_⟩
    · rw [zup_miss (by decide)]; exact k3
    · rw [zup_miss (by decide)]; exact k4
    · rw [zup_miss (by decide)]; exact k5
    · rw [zup_miss (by decide)]; exact k7'
    · rw [zup_ne (by decide)]; exact k8
    · rw [zup_ne (by decide)]; exact k9
    · rw [zup_ne (by decide)]; exact k10
    · rw [zup_ne (by decide)]; exact k11
  · rw [if_neg (by omega)] at e
    exact absurd e (by decide)
  · have := f.2.1
    rw [this] at z
    exact absurd z (by decide)
/-- the two fields set back behind a bracket -/
theorem zSm.back (k : zSm μ0 μ T L q c (h + 1) (dp + 1) lv O A P B) (h4 : h < 400) (d4 : dp < 8) : zSm μ0 (zup (zup μ 1320 22 (zw ((μ 1320 22) - 1))) 1320 23 (zw (((zup μ 1320 22 (zw ((μ 1320 22) - 1))) 1320 23) - 1))) T L q c h dp lv O A P B := by
  obtain ⟨k1, k2, k3, k4, k5, k6, k7, k8, k9, k10, k11⟩ := k
  have e1 : zup μ 1320 22 (zw ((μ 1320 22) - 1)) 1320 23 = ((dp + 1 : Nat) : Int) := by rw [zup_miss (by decide)]; exact k6
  rw [e1, k5, zw_of (by omega) (by omega), zw_of (by omega) (by omega)]
  refine ⟨(k1.up (by simp)).up (by simp), (k2.up (by simp)).up (by simp), ?_, ?_, ?_, ?_, ?_, ?_, ?_, ?_, ?_⟩
  · rw [zup_miss (by decide), zup_miss (by decide)]; exact k3
  · rw [zup_miss (by decide), zup_miss (by decide)]; exact k4
  · rw [zup_miss (by decide), zup_hit]; omega
  · rw [zup_hit]; omega
  · rw [zup_miss (by decide), zup_miss (by decide)]; exact k7
  · rw [zup_ne (by decide), zup_ne (by decide)]; exact k8
  · rw [zup_ne (by decide), zup_ne (by decide)]; exact k9
  · rw [zup_ne (by decide), zup_ne (by decide)]; exact k10
  · rw [zup_ne (by decide), zup_ne (by decide)]; exact k11
end

/-! what a LAW tells: g which clauses go, wt their tests (some 1: it holds), ws their sums, by facts; told by the class's steps (zLC) and by the reference's (zLM) -/
abbrev zTw : Type := (Int → Int) → Int → Option Int
abbrev zLaw : Type := Nat × (Int → Int) × zTw × zTw
theorem zS5.congr {k ab F k' ab' F' : Int → Int} {i j : Int} {D : Nat} {r : Option Int} (h : zS5 k ab F i j D r) (h1 : ∀ s : Int, i ≤ s → s < j → k' s = k s ∧ ab' s = ab s) (h2 : ∀ q : Int, 0 ≤ q → q < 12 → F' q = F q) : zS5 k' ab' F' i j D r := by
  intro B P hC
  refine h B P (fun s t σ s0 s1 t0 t1 => ?_)
  obtain ⟨e1, e2⟩ := h1 s s0 s1
  obtain ⟨c1, c2, c3, c4, c5⟩ := hC s t σ s0 s1 t0 t1
  rw [e1] at c1 c2 c3 c4 c5
  rw [e2] at c1 c2 c5
  exact ⟨c1, fun a b c d q => c2 a b c d (by rw [h2 _ c d]; exact q), c3, c4, c5⟩
def zKk (κ : Int → Int) (s : Int) : Int := zMk (κ (98 + 2 * s))
def zKa (κ : Int → Int) (s : Int) : Int := zMa (κ (98 + 2 * s)) (κ (98 + 2 * s + 1))
def zLC (μ : zM) (a : Int) (g : Int → Int) (wt ws : zTw) : Prop :=
  (0 ≤ μ a 0 ∧ μ a 0 ≤ 12 ∧ 0 ≤ μ a 5 ∧ μ a 5 ≤ 400) ∧ ∀ c : Int, 0 ≤ c → c < μ a 0 →
    (μ (a + 1) c = g c ∧ (g c = 0 ∨ g c = 1)) ∧ (0 ≤ μ (a + 2) c ∧ 0 ≤ μ (a + 3) c ∧ μ (a + 3) c ≤ μ a 5 ∧ μ (a + 4) c ≤ μ a 5) ∧
    (∃ D : Nat, D ≤ 64 ∧ ∀ F, zGF F → zS5 (μ (a + 5)) (μ (a + 6)) F (μ (a + 2) c) (μ (a + 3) c) D (ws F c)) ∧
    (μ (a + 3) c < μ (a + 4) c → ∃ D : Nat, D ≤ 64 ∧ ∀ F, zGF F → zS5 (μ (a + 5)) (μ (a + 6)) F (μ (a + 3) c) (μ (a + 4) c) D (wt F c)) ∧
    (μ (a + 4) c ≤ μ (a + 3) c → ∀ F, wt F c = some 1)
def zLM (κ : Int → Int) (n : Int) (g : Int → Int) (wt ws : zTw) : Prop :=
  κ 1 = n ∧ ∀ c : Int, 0 ≤ c → c < n →
    κ (2 + 8 * c) = 1 - g c ∧ (0 ≤ κ (2 + 8 * c + 3) ∧ κ (2 + 8 * c + 4) ≤ 400 ∧ 0 ≤ κ (2 + 8 * c + 5) ∧ κ (2 + 8 * c + 6) ≤ 400) ∧
    (∃ D : Nat, D ≤ 64 ∧ ∀ F, zGF F → zS5 (zKk κ) (zKa κ) F (κ (2 + 8 * c + 3)) (κ (2 + 8 * c + 4)) D (ws F c)) ∧
    (κ (2 + 8 * c + 5) < κ (2 + 8 * c + 6) → ∃ D : Nat, D ≤ 64 ∧ ∀ F, zGF F → zS5 (zKk κ) (zKa κ) F (κ (2 + 8 * c + 5)) (κ (2 + 8 * c + 6)) D (wt F c)) ∧
    (κ (2 + 8 * c + 6) ≤ κ (2 + 8 * c + 5) → ∀ F, wt F c = some 1)
def zLW (n : Int) (wt ws : zTw) : Prop := ∀ (F : Int → Int) (c v : Int), zGF F → 0 ≤ c → c < n → (ws F c = some v → zb9 v) ∧ (wt F c = some v → v = 0 ∨ v = 1)
/-- a LAW of the class at a and one of the reference belong together -/
def zLR (μ : zM) (a : Int) (κ : Int → Int) : Prop := ∃ (g : Int → Int) (wt ws : zTw), zLC μ a g wt ws ∧ zLM κ (μ a 0) g wt ws ∧ zLW (μ a 0) wt ws
theorem zLC.copy {μ ν : zM} {a b : Int} {g : Int → Int} {wt ws : zTw} (h : zLC μ a g wt ws) (h0 : ν b 0 = μ a 0) (h5 : ν b 5 = μ a 5) (h1 : ∀ k c : Int, 1 ≤ k → k ≤ 4 → 0 ≤ c → c < μ a 0 → ν (b + k) c = μ (a + k) c) (h2 : ∀ k c : Int, 5 ≤ k → k ≤ 6 → 0 ≤ c → c < μ a 5 → ν (b + k) c = μ (a + k) c) : zLC ν b g wt ws := by
  obtain ⟨q, hc⟩ := h
  unfold zLC
  rw [h0, h5]
  refine ⟨q, fun c c0 c1 => ?_⟩
  rw [h1 1 c (by decide) (by decide) c0 c1, h1 2 c (by decide) (by decide) c0 c1, h1 3 c (by decide) (by decide) c0 c1, h1 4 c (by decide) (by decide) c0 c1]
  obtain ⟨a1, a2, ⟨D, hD, a3⟩, a4, a5⟩ := hc c c0 c1
  refine ⟨a1, a2, ⟨D, hD, fun F hF => (a3 F hF).congr (fun s s0 s1 => ⟨h2 5 s (by decide) (by decide) (by omega) (by omega), h2 6 s (by decide) (by decide) (by omega) (by omega)⟩) (fun _ _ _ => rfl)⟩, fun lt => ?_, a5⟩
  obtain ⟨D', hD', a6⟩ := a4 lt
  exact ⟨D', hD', fun F hF => (a6 F hF).congr (fun s s0 s1 => ⟨h2 5 s (by decide) (by decide) (by omega) (by omega), h2 6 s (by decide) (by decide) (by omega) (by omega)⟩) (fun _ _ _ => rfl)⟩
theorem zLC.keep {μ ν : zM} {a : Int} {g : Int → Int} {wt ws : zTw} (h : zLC μ a g wt ws) (hk : ∀ b : Int, a ≤ b → b < a + 7 → ν b = μ b) : zLC ν a g wt ws :=
  h.copy (by rw [hk a (by omega) (by omega)]) (by rw [hk a (by omega) (by omega)]) (fun k c k0 k1 _ _ => by rw [hk _ (by omega) (by omega)]) (fun k c k0 k1 _ _ => by rw [hk _ (by omega) (by omega)])
theorem zLM.congr {κ κ' : Int → Int} {n : Int} {g : Int → Int} {wt ws : zTw} (h : zLM κ n g wt ws) (hn : n ≤ 12) (e : ∀ i : Int, 0 ≤ i → i < 900 → κ' i = κ i) : zLM κ' n g wt ws := by
  obtain ⟨h1, hc⟩ := h
  refine ⟨by rw [e 1 (by decide) (by decide)]; exact h1, fun c c0 c1 => ?_⟩
  rw [e (2 + 8 * c) (by omega) (by omega), e (2 + 8 * c + 3) (by omega) (by omega), e (2 + 8 * c + 4) (by omega) (by omega), e (2 + 8 * c + 5) (by omega) (by omega), e (2 + 8 * c + 6) (by omega) (by omega)]
  obtain ⟨a1, a2, ⟨D, hD, a3⟩, a4, a5⟩ := hc c c0 c1
  have kk : ∀ s : Int, 0 ≤ s → s < 400 → zKk κ' s = zKk κ s ∧ zKa κ' s = zKa κ s := fun s s0 s1 => by
    unfold zKk zKa
    rw [e (98 + 2 * s) (by omega) (by omega), e (98 + 2 * s + 1) (by omega) (by omega)]
    exact ⟨rfl, rfl⟩
  refine ⟨a1, a2, ⟨D, hD, fun F hF => (a3 F hF).congr (fun s s0 s1 => kk s (by omega) (by omega)) (fun _ _ _ => rfl)⟩, fun lt => ?_, a5⟩
  obtain ⟨D', hD', a6⟩ := a4 lt
  exact ⟨D', hD', fun F hF => (a6 F hF).congr (fun s s0 s1 => kk s (by omega) (by omega)) (fun _ _ _ => rfl)⟩
theorem zLR_ok : zLRok zLR := by
  refine ⟨fun μ ν a κ hk ⟨g, wt, ws, h1, h2, h3⟩ => ⟨g, wt, ws, h1.keep hk, ?_, ?_⟩, fun μ a κ κ' e ⟨g, wt, ws, h1, h2, h3⟩ => ⟨g, wt, ws, h1, h2.congr h1.1.2.1 e, h3⟩, fun μ a κ ⟨g, wt, ws, h1, h2, h3⟩ => ?_, fun μ ν a b κ e0 e5 e1 e2 ⟨g, wt, ws, h1, h2, h3⟩ => ⟨g, wt, ws, h1.copy e0 e5 e1 e2, by rw [e0]; exact h2, by rw [e0]; exact h3⟩⟩
  · rw [hk a (by omega) (by omega)]; exact h2
  · rw [hk a (by omega) (by omega)]; exact h3
  · obtain ⟨⟨q0, q1, q2, q3⟩, hc⟩ := h1
    refine ⟨q0, q1, q2, q3, fun c c0 c1 => ?_⟩
    obtain ⟨⟨a1, a2⟩, _⟩ := hc c c0 c1
    rw [a1]
    exact a2
/-! CHANCE, as both reckon it -/
def zcs (g : Int → Int) (w : Int → Option Int) (wo : Int) : Nat → Int × Int × Int
  | 0 => (0, 0, 0)
  | c + 1 => if g c = 1 then ((w c).getD (zcs g w wo c).1, (zcs g w wo c).2.1, (zcs g w wo c).2.2) else ((zcs g w wo c).1, (zcs g w wo c).2.1 + (if (zcs g w wo c).2.2 = wo then 0 else if 0 < (w c).getD 0 then (w c).getD 0 else 0), (zcs g w wo c).2.2 + 1)
def zww (wt ws : zTw) (F : Int → Int) : Int → Option Int := fun c => if wt F c = some 1 then ws F c else none
def zclp (v : Int) : Int := if v < 0 then 0 else if 100 < v then 100 else v
def zcha (δ : Nat → Int → Int) (law : Option zLaw) (wo p g s go : Int) : Int := if δ 0 p = 1 then 0 else if δ 0 p = 2 then (if g < δ 1 p then 0 else 100) else match law with
  | none => 0
  | some w => zclp ((zcs w.2.1 (zww w.2.2.1 w.2.2.2 (zfc δ p g s go)) wo w.1).1 - (zcs w.2.1 (zww w.2.2.1 w.2.2.2 (zfc δ p g s go)) wo w.1).2.1)
theorem zclp_bd (v : Int) : 0 ≤ zclp v ∧ zclp v ≤ 100 := by
  unfold zclp
  repeat' split
  all_goals omega
theorem zcha_bd {δ : Nat → Int → Int} {law : Option zLaw} {wo p g s go : Int} : 0 ≤ zcha δ law wo p g s go ∧ zcha δ law wo p g s go ≤ 100 := by
  unfold zcha
  split
  · omega
  · split
    · split <;> omega
    · split
      · omega
      · exact zclp_bd _
theorem zcs_bd {g : Int → Int} {w : Int → Option Int} {wo : Int} : ∀ n : Nat, (∀ c v : Int, 0 ≤ c → c < n → w c = some v → zb9 v) → zb9 (zcs g w wo n).1 ∧ 0 ≤ (zcs g w wo n).2.1 ∧ (zcs g w wo n).2.1 ≤ 1000000000 * n ∧ 0 ≤ (zcs g w wo n).2.2 ∧ (zcs g w wo n).2.2 ≤ n
  | 0, _ => by unfold zcs zb9; simp
  | n + 1, h => by
    obtain ⟨i1, i2, i3, i4, i5⟩ := zcs_bd n (fun c v c0 c1 hv => h c v c0 (by omega) hv)
    have hw : ∀ v, w n = some v → zb9 v := fun v hv => h n v (by omega) (by omega) hv
    unfold zcs
    unfold zb9 at *
    split
    · refine ⟨?_, i2, by dsimp only; omega, i4, by dsimp only; omega⟩
      cases e : w n with
      | none => exact i1
      | some v => exact hw v e
    · refine ⟨i1, ?_, ?_, by dsimp only; omega, by dsimp only; omega⟩ <;> cases e : w n with
      | none => simp; omega
      | some v =>
        have := hw v e
        simp only [Option.getD_some]
        repeat' split
        all_goals omega

/-! law: the reference reads all clauses, and keeps the law -/
def zLN9 (N O A : Int → Int) (n e : Int) (g : Int → Int) (wt ws : zTw) : Prop := ∀ c : Int, 0 ≤ c → c < n →
    N (8 * c) = 1 - g c ∧ (0 ≤ N (8 * c + 3) ∧ N (8 * c + 4) ≤ e ∧ 0 ≤ N (8 * c + 5) ∧ N (8 * c + 6) ≤ e) ∧
    (∃ D : Nat, D ≤ 64 ∧ ∀ F, zGF F → zS5 (fun i => zMk (O i)) (fun i => zMa (O i) (A i)) F (N (8 * c + 3)) (N (8 * c + 4)) D (ws F c)) ∧
    (N (8 * c + 5) < N (8 * c + 6) → ∃ D : Nat, D ≤ 64 ∧ ∀ F, zGF F → zS5 (fun i => zMk (O i)) (fun i => zMa (O i) (A i)) F (N (8 * c + 5)) (N (8 * c + 6)) D (wt F c)) ∧
    (N (8 * c + 6) ≤ N (8 * c + 5) → ∀ F, wt F c = some 1)
theorem zLN9.up {T : Int → Int} {L : Nat} {μ ν : zM} {n c q' lv' : Nat} {gc : Int} {ws' wt' : zSem} {g : Int → Int} {wt ws : zTw} (h : zLN9 (μ 1326) (μ 1327) (μ 1328) n c g wt ws) (p : zMp T L μ ν n c q' lv' gc ws' wt') : ∃ c2 : Nat, ν 1320 16 = c2 ∧ c2 ≤ q' ∧ zLN9 (ν 1326) (ν 1327) (ν 1328) ((n + 1 : Nat) : Int) c2 (zsu g n gc) (ztu wt n wt') (ztu ws n ws') := by
  obtain ⟨p1, p2, p3, p4, p5, p6, p7, p8, p9, p10, p11, c1, c2, e16, e0, e3, e4, e5, e6, r1, r2, r3, ⟨D1, d1, T1⟩, T2, T3⟩ := p
  refine ⟨c2, e16, r3, fun i i0 i1 => ?_⟩
  by_cases e : i = n
  · subst e
    rw [e0, e3, e4, e5, e6, zsu_hit]
    refine ⟨rfl, by omega, ⟨D1, d1, fun F hF => by rw [ztu_hit]; exact T1 F hF⟩, fun z => ?_, fun z F => ?_⟩
    · obtain ⟨D2, d2, T2'⟩ := T2 (by omega)
      exact ⟨D2, d2, fun F hF => by rw [ztu_hit]; exact T2' F hF⟩
    · rw [ztu_hit, T3 (by omega)]; rfl
  · have q0 := p9 (8 * i) (by omega)
    have q3 := p9 (8 * i + 3) (by omega)
    have q4 := p9 (8 * i + 4) (by omega)
    have q5 := p9 (8 * i + 5) (by omega)
    have q6 := p9 (8 * i + 6) (by omega)
    have cc : (c : Int) ≤ c2 := by omega
    have hi := h i i0 (by omega)
    have le : ∀ x y z : Int, x < y → y ≤ z → x < z := fun x y z a b => by omega
    have o2 := hi.2.1
    have b1 : 0 ≤ μ 1326 (8 * i + 3) ∧ μ 1326 (8 * i + 4) ≤ c2 ∧ 0 ≤ μ 1326 (8 * i + 5) ∧ μ 1326 (8 * i + 6) ≤ c2 := ⟨o2.1, Int.le_trans o2.2.1 cc, o2.2.2.1, Int.le_trans o2.2.2.2 cc⟩
    rw [q0, q3, q4, q5, q6, zsu_miss e]
    have cg : ∀ j : Int, j < c → (fun i => zMk (ν 1327 i)) j = (fun i => zMk (μ 1327 i)) j ∧ (fun i => zMa (ν 1327 i) (ν 1328 i)) j = (fun i => zMa (μ 1327 i) (μ 1328 i)) j := fun j hj => by
      show zMk (ν 1327 j) = zMk (μ 1327 j) ∧ zMa (ν 1327 j) (ν 1328 j) = zMa (μ 1327 j) (μ 1328 j)
      rw [(p8 j hj).1, (p8 j hj).2]; exact ⟨rfl, rfl⟩
    obtain ⟨o1, _, ⟨D, o3, o4⟩, o5, o6⟩ := hi
    refine ⟨o1, b1, ⟨D, o3, fun F hF => by rw [ztu_miss e]; exact (o4 F hF).congr (fun j j0 j1 => cg j (le _ _ _ j1 o2.2.1)) (fun _ _ _ => rfl)⟩, fun z => ?_, fun z F => by rw [ztu_miss e]; exact o6 z F⟩
    obtain ⟨D, o7, o8⟩ := o5 z
    exact ⟨D, o7, fun F hF => by rw [ztu_miss e]; exact (o8 F hF).congr (fun j j0 j1 => cg j (le _ _ _ j1 o2.2.2.2)) (fun _ _ _ => rfl)⟩
section
variable {X : zX} {l : Launch} {d : Nat} {T : Int → Int} {L : Nat}
theorem k_mLoop {R : Int → zM → Prop} (hd : 15 ≤ d) : ∀ (k n : Nat), n + k = 12 → ∀ (μ : zM) (q lv c : Nat) (g : Int → Int) (wt ws : zTw), zTm μ T L q → μ 1320 13 = 0 → μ 1320 14 = n → μ 1320 16 = c → c ≤ q → μ 1320 19 = lv → lv ≤ 50 → zLN9 (μ 1326) (μ 1327) (μ 1328) n c g wt ws →
    (∀ q' ν, zPl9 T L k n q lv g wt ws = (q', none) → zFk μ ν → ν 1320 13 = 1 → ν 1320 12 = (q' : Nat) → zE X true l d 0 0 y_M_law 96 [some (13, 0, 1320), none, none] [] ν (zri R)) →
    (∀ q' m g' wt' ws' ν c', zPl9 T L k n q lv g wt ws = (q', some (m, g', wt', ws')) → zFk μ ν → ν 1320 12 = μ 1320 12 → ν 1320 13 = 0 → ν 1320 14 = (m : Nat) → m ≤ 12 → ν 1320 16 = (c' : Nat) → c' ≤ 400 → zLN9 (ν 1326) (ν 1327) (ν 1328) m c' g' wt' ws' → zE X true l d 0 0 y_M_law 96 [some (13, 0, 1320), none, none] [] ν (zri R)) →
    zCv X true l (d - 1) 0 0 y_M_readClause [(13, 0, 1320)] μ (fun ν4 => zE X true l d 0 0 y_M_law 50 [some (13, 0, 1320), none, none] [] ν4 (zri R)) := by
  intro k
  induction k with
  | zero =>
    intro n hn μ q lv c g wt ws ht hb h14 h16 hcq h19 l50 hN hf hs
    refine k_mClause (by omega) ht hb h14 (by omega) h16 hcq h19 l50 (fun q' lv' ν e f n13 n12 => ?_) (fun q' lv' gc ws' wt' ν z => by omega)
    have eq : q' = q := by
      rcases e with z | z
      · exact z.2
      · omega
    have z13 : ¬ ν 1320 13 = 0 := by rw [n13]; decide
    subst eq
    exact s_M_law_50 (a0 := 1320) (d1 := d - 1) (by omega) ⟨fun _ => ⟨fun _ => hf q' ν rfl f n13 n12, fun z => absurd z z13⟩, fun z => absurd z z13⟩
  | succ k ih =>
    intro n hn μ q lv c g wt ws ht hb h14 h16 hcq h19 l50 hN hf hs
    have hL4 := ht.2.2.2.2.2.2.2
    refine k_mClause (by omega) ht hb h14 (by omega) h16 hcq h19 l50 (fun q' lv' ν e f n13 n12 => ?_) (fun q' lv' gc ws' wt' ν _ e p => ?_)
    · have z13 : ¬ ν 1320 13 = 0 := by rw [n13]; decide
      have e' : zPk T L q lv = (q', lv', none) := by
        rcases e with z | z
        · omega
        · exact z.2
      exact s_M_law_50 (a0 := 1320) (d1 := d - 1) (by omega) ⟨fun _ => ⟨fun _ => hf q' ν (zPl9_f e') f n13 n12, fun z => absurd z z13⟩, fun z => absurd z z13⟩
    · have eq := zPl9_s (k := k) (c := n) (g := g) (wt := wt) (ws := ws) e
      obtain ⟨c2, e16, c2q, N2⟩ := hN.up p
      obtain ⟨p1, p2, p3, p4, p5, p6, p7, _⟩ := p
      have q'L := p3.2.2.2.2.2.2.1
      have e10 : ν 1320 10 = zsr T L q' := p3.2.2.2.2.1
      refine s_M_law_50 (a0 := 1320) (d1 := d - 1) (by omega) ⟨fun z => absurd p4 z, fun _ => k_M_isSign p3 (fun g2 => ⟨fun z => absurd z (by decide), fun _ => ?_⟩) (fun g2 => ⟨fun _ => ⟨fun z => absurd p4 z, fun _ => ⟨fun z => ?_, fun z => ?_⟩⟩, fun z => absurd rfl z⟩)⟩
      · have g2' : zsr T L q' = 3 ∧ T q' = 59 := g2
        rw [if_neg (by omega), if_pos g2'] at eq
        have nq := znx_bd (T := T) q'L
        refine k_M_next (by omega) p3 (fun ν2 n1 n2 n3 => ?_)
        have F2 : zFk μ ν2 := p1.trans ⟨fun b h1 _ => n1 b h1, fun j h1 _ _ _ _ => n2 j (by omega)⟩
        refine ih (n + 1) (by omega) ν2 (znx T L q') lv' c2 _ _ _ n3 (by rw [n2 13 (by decide)]; exact p4) (by rw [n2 14 (by decide)]; exact p5) (by rw [n2 16 (by decide)]; exact e16) (by omega) (by rw [n2 19 (by decide)]; exact p6) p7 (by rw [n1 1326 (by decide), n1 1327 (by decide), n1 1328 (by decide)]; exact N2) (fun q'' ν3 e3 f3 => hf q'' ν3 (eq.trans e3) (F2.trans f3)) (fun q'' m g' wt'' ws'' ν3 c' e3 f3 e12 => hs q'' m g' wt'' ws'' ν3 c' (eq.trans e3) (F2.trans f3) (e12.trans (by rw [n2 12 (by decide)]; exact p2)))
      · rw [e10] at z
        rw [if_pos z] at eq
        exact hs q' _ _ _ _ ν c2 eq p1 p2 p4 p5 (by omega) e16 (by omega) N2
      · rw [e10] at z
        rw [if_neg z, if_neg (show ¬ (zsr T L q' = 3 ∧ T q' = 59) from g2)] at eq
        exact k_M_must (by omega) p3 p4 (fun y => absurd rfl y) (fun _ => hf q' _ eq ((p1.up (by simp)).up (by simp)) (by rw [zup_miss (by decide), zup_hit]) zup_hit)
/-- the law is kept: what the copy makes -/
def zKp9 (ν ρ : zM) (n m c' : Nat) : Prop := (∀ b : Int, b ≠ 1320 → b ≠ 1322 → ρ b = ν b) ∧ (∀ j : Int, j ≠ 7 → j ≠ 1 → ρ 1320 j = ν 1320 j) ∧ ρ 1320 7 = 0 ∧ ρ 1320 1 = 0 ∧ ρ 1322 3 = ((n + 1 : Nat) : Int) ∧ (∀ i : Int, i ≠ 3 → ¬ (480 + 900 * (n : Int) ≤ i ∧ i < 480 + 900 * (n : Int) + 900) → ρ 1322 i = ν 1322 i) ∧ ρ 1322 (480 + 900 * n + 1) = m ∧ (∀ k : Int, 0 ≤ k → k < 8 * m → ρ 1322 (480 + 900 * n + (2 + k)) = ν 1326 k) ∧ ∀ k : Int, 0 ≤ k → k < c' → ρ 1322 (480 + 900 * n + (98 + 2 * k)) = ν 1327 k ∧ ρ 1322 (480 + 900 * n + (98 + 2 * k + 1)) = ν 1328 k
theorem k_mKeep {R : Int → zM → Prop} {ν : zM} {n m c' : Nat} (hd : 2 ≤ d) (hn : ν 1322 3 = n) (n4 : n < 4) (h13 : ν 1320 13 = 0) (h14 : ν 1320 14 = m) (m12 : m ≤ 12) (h16 : ν 1320 16 = c') (c4 : c' ≤ 400) (hR : ∀ ρ, zKp9 ν ρ n m c' → R n ρ) : zE X true l d 0 0 y_M_law 96 [some (13, 0, 1320), none, none] [] ν (zri R) := by
  refine s_M_law_96 (a0 := 1320) (d1 := d - 1) (by omega) ⟨fun _ => ?_, fun z => absurd (by rw [zup_miss (by decide)]; exact h13) z⟩
  simp only [Int.reduceAdd]
  have e3 : zup ν 1320 7 0 1322 3 = n := by rw [zup_ne (by decide)]; exact hn
  have e14 : zup ν 1320 7 0 1320 14 = m := by rw [zup_miss (by decide)]; exact h14
  rw [e3, e14]
  have z1 : zw (900 * (n : Int)) = 900 * (n : Int) := zw_of (by omega) (by omega)
  have z2 : zw (480 + 900 * (n : Int)) = 480 + 900 * (n : Int) := zw_of (by omega) (by omega)
  have z3 : zw (480 + 900 * (n : Int) + 1) = 480 + 900 * (n : Int) + 1 := zw_of (by omega) (by omega)
  rw [z1, z2, z3]
  refine ⟨by omega, ?_⟩
  -- the code
  have lp2 : ∀ k i : Nat, i + k = c' → ∀ ρ : zM, (∀ b : Int, b ≠ 1320 → b ≠ 1322 → ρ b = ν b) → (∀ j : Int, j ≠ 7 → ρ 1320 j = ν 1320 j) → ρ 1320 7 = 0 → (∀ i : Int, ¬ (480 + 900 * (n : Int) ≤ i ∧ i < 480 + 900 * (n : Int) + 900) → ρ 1322 i = ν 1322 i) → ρ 1322 (480 + 900 * n + 1) = m → (∀ k : Int, 0 ≤ k → k < 8 * m → ρ 1322 (480 + 900 * n + (2 + k)) = ν 1326 k) → (∀ k : Int, 0 ≤ k → k < i → ρ 1322 (480 + 900 * n + (98 + 2 * k)) = ν 1327 k ∧ ρ 1322 (480 + 900 * n + (98 + 2 * k + 1)) = ν 1328 k) → zE X true l d 0 0 y_M_law 179 [some (13, 0, 1320), some (0, 0, 480 + 900 * (n : Int)), some (0, 0, (i : Int))] [] ρ (zri R) := by
    intro k
    induction k with
    | zero =>
      intro i hi ρ r1 r2 r3 r4 r5 r6 r7
      obtain rfl : i = c' := by omega
      refine s_M_law_179 (a0 := 1320) (d1 := d - 1) (by omega) ⟨fun _ => ?_, fun z => absurd (by rw [r2 16 (by decide), h16]; omega) z⟩
      simp only [Int.reduceAdd]
      have f3 : ρ 1322 3 = n := by rw [r4 3 (by omega)]; exact hn
      rw [f3, zw_of (show -2147483648 ≤ (n : Int) + 1 by omega) (show (n : Int) + 1 < 2147483648 by omega)]
      have f4 : zup ρ 1322 3 ((n : Int) + 1) 1322 3 = (n : Int) + 1 := zup_hit
      rw [f4, zw_of (by omega) (by omega)]
      refine k_M_tellp (by omega) ?_
      rw [show (n : Int) + 1 - 1 = n by omega]
      refine hR _ ⟨fun b h1 h2 => ?_, fun j h1 h2 => ?_, ?_, ?_, ?_, fun i h1 h2 => ?_, ?_, fun k h1 h2 => ?_, fun k h1 h2 => ?_⟩
      · unfold mok; rw [zup_ne h1, zup_ne h2]; exact r1 b h1 h2
      · unfold mok; rw [zup_miss (by omega), zup_ne (by decide)]; exact r2 j h1
      · unfold mok; rw [zup_miss (by decide), zup_ne (by decide)]; exact r3
      · unfold mok; exact zup_hit
      · unfold mok; rw [zup_ne (by decide), zup_hit]; rfl
      · unfold mok; rw [zup_ne (by decide), zup_miss (by omega)]; exact r4 i h2
      · unfold mok; rw [zup_ne (by decide), zup_miss (by omega)]; exact r5
      · unfold mok; rw [zup_ne (by decide), zup_miss (by omega)]; exact r6 k h1 h2
      · unfold mok; rw [zup_ne (by decide), zup_miss (by omega), zup_miss (by omega)]; exact r7 k h1 h2
    | succ k ih =>
      intro i hi ρ r1 r2 r3 r4 r5 r6 r7
      refine s_M_law_179 (a0 := 1320) (d1 := d - 1) (by omega) ⟨fun z => absurd z (by rw [r2 16 (by decide), h16]; omega), fun _ => ?_⟩
      simp only [Int.reduceAdd]
      have y1 : zw (480 + 900 * (n : Int) + 98) = 480 + 900 * (n : Int) + 98 := zw_of (by omega) (by omega)
      have y2 : zw (2 * (i : Int)) = 2 * (i : Int) := zw_of (by omega) (by omega)
      have y3 : zw (480 + 900 * (n : Int) + 98 + 2 * (i : Int)) = 480 + 900 * (n : Int) + 98 + 2 * (i : Int) := zw_of (by omega) (by omega)
      have y4 : zw (480 + 900 * (n : Int) + 98 + 2 * (i : Int) + 1) = 480 + 900 * (n : Int) + 98 + 2 * (i : Int) + 1 := zw_of (by omega) (by omega)
      rw [y1, y2, y3, y4, zw_of (show -2147483648 ≤ (i : Int) + 1 by omega) (by omega)]
      have f7 : ρ 1327 i = ν 1327 i := by rw [r1 1327 (by decide) (by decide)]
      have f8 : zup ρ 1322 (480 + 900 * (n : Int) + 98 + 2 * (i : Int)) (ρ 1327 i) 1328 i = ν 1328 i := by rw [zup_ne (by decide), r1 1328 (by decide) (by decide)]
      rw [f8, f7]
      refine ⟨by omega, by omega, by omega, by omega, ih (i + 1) (by omega) _ (fun b h1 h2 => ?_) (fun j h1 => ?_) ?_ (fun j h1 => ?_) ?_ (fun k h1 h2 => ?_) (fun k h1 h2 => ?_)⟩
      · rw [zup_ne h2, zup_ne h2]; exact r1 b h1 h2
      · rw [zup_ne (by decide), zup_ne (by decide)]; exact r2 j h1
      · rw [zup_ne (by decide), zup_ne (by decide)]; exact r3
      · rw [zup_miss (by omega), zup_miss (by omega)]; exact r4 j h1
      · rw [zup_miss (by omega), zup_miss (by omega)]; exact r5
      · rw [zup_miss (by omega), zup_miss (by omega)]; exact r6 k h1 h2
      · by_cases e : k = i
        · subst e
          constructor
          · rw [zup_miss (by omega), show 480 + 900 * (n : Int) + (98 + 2 * (i : Int)) = 480 + 900 * (n : Int) + 98 + 2 * (i : Int) by omega, zup_hit]
          · rw [show 480 + 900 * (n : Int) + (98 + 2 * (i : Int) + 1) = 480 + 900 * (n : Int) + 98 + 2 * (i : Int) + 1 by omega, zup_hit]
        · rw [zup_miss (by omega), zup_miss (by omega), zup_miss (by omega), zup_miss (by omega)]
          exact r7 k h1 (by omega)
  have lp1 : ∀ k i : Nat, i + k = 8 * m → ∀ ρ : zM, (∀ b : Int, b ≠ 1320 → b ≠ 1322 → ρ b = ν b) → (∀ j : Int, j ≠ 7 → ρ 1320 j = ν 1320 j) → ρ 1320 7 = 0 → (∀ i : Int, ¬ (480 + 900 * (n : Int) ≤ i ∧ i < 480 + 900 * (n : Int) + 900) → ρ 1322 i = ν 1322 i) → ρ 1322 (480 + 900 * n + 1) = m → (∀ k : Int, 0 ≤ k → k < i → ρ 1322 (480 + 900 * n + (2 + k)) = ν 1326 k) → zE X true l d 0 0 y_M_law 144 [some (13, 0, 1320), some (0, 0, 480 + 900 * (n : Int)), some (0, 0, (i : Int))] [] ρ (zri R) := by
    intro k
    induction k with
    | zero =>
      intro i hi ρ r1 r2 r3 r4 r5 r6
      obtain rfl : i = 8 * m := by omega
      refine s_M_law_144 (a0 := 1320) ⟨fun _ => lp2 c' 0 (by omega) ρ r1 r2 r3 r4 r5 (fun k h1 h2 => r6 k h1 (by omega)) (fun k h1 h2 => by omega), fun z => absurd (by rw [r2 14 (by decide), h14, zw_of (by omega) (by omega)]; omega) z⟩
    | succ k ih =>
      intro i hi ρ r1 r2 r3 r4 r5 r6
      refine s_M_law_144 (a0 := 1320) ⟨fun z => absurd z (by rw [r2 14 (by decide), h14, zw_of (by omega) (by omega)]; omega), fun _ => ?_⟩
      simp only [Int.reduceAdd]
      have y1 : zw (480 + 900 * (n : Int) + 2) = 480 + 900 * (n : Int) + 2 := zw_of (by omega) (by omega)
      have y2 : zw (480 + 900 * (n : Int) + 2 + (i : Int)) = 480 + 900 * (n : Int) + 2 + (i : Int) := zw_of (by omega) (by omega)
      rw [y1, y2, zw_of (show -2147483648 ≤ (i : Int) + 1 by omega) (by omega)]
      have f6 : ρ 1326 i = ν 1326 i := by rw [r1 1326 (by decide) (by decide)]
      rw [f6]
      refine ⟨by omega, by omega, ih (i + 1) (by omega) _ (fun b h1 h2 => ?_) (fun j h1 => ?_) ?_ (fun j h1 => ?_) ?_ (fun k h1 h2 => ?_)⟩
      · rw [zup_ne h2]; exact r1 b h1 h2
      · rw [zup_ne (by decide)]; exact r2 j h1
      · rw [zup_ne (by decide)]; exact r3
      · rw [zup_miss (by omega)]; exact r4 j h1
      · rw [zup_miss (by omega)]; exact r5
      · by_cases e : k = i
        · subst e
          rw [show 480 + 900 * (n : Int) + (2 + (i : Int)) = 480 + 900 * (n : Int) + 2 + (i : Int) by omega, zup_hit]
        · rw [zup_miss (by omega)]
          exact r6 k h1 (by omega)
  refine lp1 (8 * m) 0 (by omega) _ (fun b h1 h2 => by rw [zup_ne h2, zup_ne h1]) (fun j h1 => by rw [zup_ne (by decide), zup_miss (by omega)]) (by rw [zup_ne (by decide), zup_hit]) (fun i h1 => by rw [zup_miss (by omega), zup_ne (by decide)]) zup_hit (fun k h1 h2 => by omega)
end

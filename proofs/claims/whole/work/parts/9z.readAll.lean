/-! law: the class reads all clauses -/
def ztu (w : zTw) (c : Int) (s : zSem) : zTw := fun F i => if i = c then s F else w F i
def zPl9 (T : Int → Int) (L : Nat) : Nat → Nat → Nat → Nat → (Int → Int) → zTw → zTw → Nat × Option (Nat × (Int → Int) × zTw × zTw)
  | 0, _, q, _, _, _, _ => (q, none)
  | k + 1, c, q, lv, g, wt, ws => match zPk T L q lv with
    | (q', _, none) => (q', none)
    | (q', lv', some (gc, s, t)) => if zsr T L q' = 0 then (q', some (c + 1, zsu g c gc, ztu wt c t, ztu ws c s)) else if zsr T L q' = 3 ∧ T q' = 59 then zPl9 T L k (c + 1) (znx T L q') lv' (zsu g c gc) (ztu wt c t) (ztu ws c s) else (q', none)
section
variable {T : Int → Int} {L k c q lv q' lv' : Nat} {g : Int → Int} {wt ws : zTw}
theorem zPl9_f (e : zPk T L q lv = (q', lv', none)) : zPl9 T L (k + 1) c q lv g wt ws = (q', none) := by
  show (match zPk T L q lv with | (q', _, none) => (q', none) | (q', lv', some (gc, s, t)) => _) = _
  rw [e]
theorem zPl9_s {gc : Int} {s t : zSem} (e : zPk T L q lv = (q', lv', some (gc, s, t))) : zPl9 T L (k + 1) c q lv g wt ws = if zsr T L q' = 0 then (q', some (c + 1, zsu g c gc, ztu wt c t, ztu ws c s)) else if zsr T L q' = 3 ∧ T q' = 59 then zPl9 T L k (c + 1) (znx T L q') lv' (zsu g c gc) (ztu wt c t) (ztu ws c s) else (q', none) := by
  show (match zPk T L q lv with | (q', _, none) => (q', none) | (q', lv', some (gc, s, t)) => if zsr T L q' = 0 then (q', some (c + 1, zsu g c gc, ztu wt c t, ztu ws c s)) else if zsr T L q' = 3 ∧ T q' = 59 then zPl9 T L k (c + 1) (znx T L q') lv' (zsu g c gc) (ztu wt c t) (ztu ws c s) else (q', none)) = _
  rw [e]
end
theorem ztu_hit {w : zTw} {c : Int} {s : zSem} {F : Int → Int} : ztu w c s F c = s F := by unfold ztu; rw [if_pos rfl]
theorem ztu_miss {w : zTw} {c i : Int} {s : zSem} {F : Int → Int} (h : i ≠ c) : ztu w c s F i = w F i := by unfold ztu; rw [if_neg h]
theorem zLW.up {c : Nat} {wt ws : zTw} {s t : zSem} (h : zLW c wt ws) (h1 : zGd 3 s) (h2 : zGd 8 t) : zLW ((c + 1 : Nat) : Int) (ztu wt c t) (ztu ws c s) := by
  intro F i v hF i0 i1
  by_cases e : i = c
  · subst e
    rw [ztu_hit, ztu_hit]
    exact ⟨fun z => (h1 F v hF z).1 (by decide), fun z => (h2 F v hF z).2 (by decide)⟩
  · rw [ztu_miss e, ztu_miss e]
    exact h F i v hF i0 (by omega)
theorem zLC.up {T : Int → Int} {L : Nat} {μ ν : zM} {s c q' lv' : Nat} {gc : Int} {ws' wt' : zSem} {g : Int → Int} {wt ws : zTw} (h : zLC μ 92 g wt ws) (hc : μ 92 0 = c) (hs : μ 92 5 = s) (c12 : c < 12) (hL4 : L ≤ 400) (p : zCp T L μ ν s c q' lv' gc ws' wt') : zLC ν 92 (zsu g c gc) (ztu wt c wt') (ztu ws c ws') := by
  obtain ⟨p1, p2, p3, p4, p5, p6, p7, p8, p9, p10, s1, s2, e5, e94, e95, e96, r1, r2, r3, ⟨D1, d1, T1⟩, T2, T3⟩ := p
  have qL := p2.2.2.2.2.2.1
  refine ⟨by rw [p5, e5]; omega, fun i i0 i1 => ?_⟩
  rw [p5] at i1
  simp only [Int.reduceAdd]
  rw [e5]
  by_cases e : i = c
  · subst e
    rw [p8.1, zsu_hit, e94, e95, e96]
    refine ⟨⟨rfl, p8.2⟩, by omega, ⟨D1, d1, fun F hF => by rw [ztu_hit]; exact T1 F hF⟩, fun z => ?_, fun z F => ?_⟩
    · obtain ⟨D2, d2, T2'⟩ := T2 (by omega)
      exact ⟨D2, d2, fun F hF => by rw [ztu_hit]; exact T2' F hF⟩
    · rw [ztu_hit, T3 (by omega)]; rfl
  · have o := h.2 i i0 (by rw [hc]; omega)
    simp only [Int.reduceAdd] at o
    rw [hs] at o
    rw [p7 93 i (by decide) (by decide) e, p7 94 i (by decide) (by decide) e, p7 95 i (by decide) (by decide) e, p7 96 i (by decide) (by decide) e, zsu_miss e]
    obtain ⟨o1, o2, ⟨D, o3, o4⟩, o5, o6⟩ := o
    refine ⟨o1, by omega, ⟨D, o3, fun F hF => by rw [ztu_miss e]; exact (o4 F hF).congr (fun j j0 j1 => p6 j (by omega)) (fun _ _ _ => rfl)⟩, fun z => ?_, fun z F => by rw [ztu_miss e]; exact o6 z F⟩
    obtain ⟨D, o7, o8⟩ := o5 z
    exact ⟨D, o7, fun F hF => by rw [ztu_miss e]; exact (o8 F hF).congr (fun j j0 j1 => p6 j (by omega)) (fun _ _ _ => rfl)⟩
section
variable {X : zX} {l : Launch} {T : Int → Int} {L : Nat} {d : Nat}
theorem k_cLoop {Q : Int → zM → Prop} (hd : 61 ≤ d) : ∀ (k c : Nat), c + k = 12 → ∀ (μ : zM) (q lv s : Nat) (g : Int → Int) (wt ws : zTw), zTc μ T L q → μ 90 5 = lv → lv ≤ 50 → μ 92 5 = s → s ≤ q → μ 92 0 = c → zLC μ 92 g wt ws → zLW c wt ws →
    (∀ q' ν, zPl9 T L k c q lv g wt ws = (q', none) → zFg μ ν → Q (q' : Nat) ν) → (∀ q' n g' wt' ws' ν, zPl9 T L k c q lv g wt ws = (q', some (n, g', wt', ws')) → zFg μ ν → zLC ν 92 g' wt' ws' → ν 92 0 = (n : Nat) → zLW n wt' ws' → Q (-1) ν) → zE X true l d 0 0 y_Reader_read 69 [some (5, 0, 90), none, none, some (0, 0, (c : Int))] [] μ (zri Q) := by
  intro k
  induction k with
  | zero =>
    intro c hc μ q lv s g wt ws ht h5 hlv hs hsq h0 hC hW hf _
    refine s_Reader_read_69 (a0 := 90) (d1 := d - 1) (by omega) ⟨fun _ => ?_, fun z => absurd (by omega) z⟩
    rw [ht.2.2.1]
    exact hf q μ rfl ⟨fun _ _ _ => rfl, fun _ _ => rfl⟩
  | succ k ih =>
    intro c hc μ q lv s g wt ws ht h5 hlv hs hsq h0 hC hW hf hs'
    have hL4 := ht.2.2.2.2.2.2
    refine s_Reader_read_69 (a0 := 90) (d1 := d - 1) (by omega) ⟨fun z => absurd z (by omega), fun _ => k_cClause (by omega) ht h5 hlv hs hsq (by omega) (fun q' lv' ν e f t => ?_) (fun q' lv' gc ws' wt' ν e p => ?_)⟩
    · refine ⟨fun z => absurd rfl z, fun _ => ?_⟩
      rw [t.2.2.1]
      exact hf q' ν (zPl9_f e) f
    · have eq := zPl9_s (k := k) (c := c) (g := g) (wt := wt) (ws := ws) e
      have C2 := hC.up h0 hs (by omega) hL4 p
      have W2 := hW.up p.2.2.2.2.2.2.2.2.1 p.2.2.2.2.2.2.2.2.2.1
      obtain ⟨p1, p2, p3, p4, p5, p6, p7, p8, p9, p10, s1, s2, e5, e94, e95, e96, r1, r2, r3, _⟩ := p
      have q'L := p2.2.2.2.2.2.1
      have e4 : ν 90 4 = zsr T L q' := p2.2.2.2.2.1
      refine ⟨fun _ => ⟨fun z4 => ?_, fun z4 => ?_⟩, fun z => absurd z (by decide)⟩
      · rw [e4] at z4
        rw [if_neg z4] at eq
        refine k_isSign p2 (fun g2 => ⟨fun _ => ?_, fun z => absurd z (by decide)⟩) (fun g2 => ⟨fun z => absurd rfl z, fun _ => ?_⟩)
        · have g2' : zsr T L q' = 3 ∧ T q' = 59 := g2
          rw [if_pos g2'] at eq
          have nq := znx_bd (T := T) q'L
          refine k_adv (by omega) p2 (fun ν2 t2 f2 l2 b2 => ?_)
          rw [zw_of (by omega) (by omega)]
          refine ih (c + 1) (by omega) ν2 (znx T L q') lv' s2 _ _ _ t2 (l2.trans p3) p4 (by rw [f2 92 (by decide)]; exact e5) (by omega) (by rw [f2 92 (by decide)]; exact p5) ?_ W2 (fun q'' ν3 e3 f3 => hf q'' ν3 (eq.trans e3) (p1.trans (b2.g.trans f3))) (fun q'' n g' wt'' ws'' ν3 e3 f3 a b c' => hs' q'' n g' wt'' ws'' ν3 (eq.trans e3) (p1.trans (b2.g.trans f3)) a b c')
          unfold zLC at C2 ⊢
          simp only [Int.reduceAdd] at C2 ⊢
          rw [f2 92 (by decide), f2 93 (by decide), f2 94 (by decide), f2 95 (by decide), f2 96 (by decide), f2 97 (by decide), f2 98 (by decide)]
          exact C2
        · rw [if_neg (show ¬ (zsr T L q' = 3 ∧ T q' = 59) from g2)] at eq
          rw [p2.2.2.1]
          exact hf q' ν eq p1
      · rw [e4] at z4
        rw [if_pos z4] at eq
        exact hs' q' _ _ _ _ ν eq p1 C2 p5 W2
/-- read -/
theorem k_read {Q : Int → zM → Prop} {μ : zM} (hd : 61 ≤ d) (hL4 : L ≤ 400) (hT : ∀ i : Int, 0 ≤ i → i < L → μ 89 i = T i) {g : Int → Int} {wt ws : zTw}
    (hf : ∀ q' ν, zPl9 T L 12 0 (zbl T L 0) 0 g wt ws = (q', none) → (∀ b : Int, ¬ (90 ≤ b ∧ b ≤ 98) → ν b = μ b) → Q (q' : Nat) ν) (hs' : ∀ q' n g' wt' ws' ν, zPl9 T L 12 0 (zbl T L 0) 0 g wt ws = (q', some (n, g', wt', ws')) → (∀ b : Int, ¬ (90 ≤ b ∧ b ≤ 98) → ν b = μ b) → zLC ν 92 g' wt' ws' → ν 92 0 = (n : Nat) → zLW n wt' ws' → Q (-1) ν) : zCi X true l d 0 0 y_Reader_read [(5, 0, 90), (14, 400, 89), (0, 0, (L : Int))] μ Q := by
  refine c_Reader_read (a0 := 90) (by omega) ?_
  have e : (if (0 : Int) < (if (L : Int) < 400 then (L : Int) else 400) then (if (L : Int) < 400 then (L : Int) else 400) else 0) = L := by
    split <;> split <;> omega
  rw [e]
  have start : ∀ ν : zM, (∀ b : Int, ¬ (90 ≤ b ∧ b ≤ 98) → ν b = μ b) → ν 90 1 = L → (∀ i : Int, 0 ≤ i → i < L → ν 91 i = T i) → zCv X true l (d - 1) 0 0 y_Law_clear [(3, 0, 90 + 2)] (zup (zup ν 90 3 0) 90 5 0) (fun ν2 => (zCv X true l (d - 1) 0 0 y_Reader_advance [(5, 0, 90)] ν2 (fun ν4 => zE X true l d 0 0 y_Reader_read 69 [some (5, 0, 90), none, none, some (0, 0, 0)] [] ν4 (zri Q)))) := fun ν f e1 et => by
    refine c_Law_clear (a0 := 92) ?_
    have m1 : zup (zup (zup (zup ν 90 3 0) 90 5 0) 92 0 0) 92 5 0 90 1 = L := by rw [zup_ne (by decide), zup_ne (by decide), zup_miss (by decide), zup_miss (by decide)]; exact e1
    have m2 : ∀ i : Int, 0 ≤ i → i < L → zup (zup (zup (zup ν 90 3 0) 90 5 0) 92 0 0) 92 5 0 91 i = T i := fun i i0 i1 => by rw [zup_ne (by decide), zup_ne (by decide), zup_ne (by decide), zup_ne (by decide)]; exact et i i0 i1
    have m3 : zup (zup (zup (zup ν 90 3 0) 90 5 0) 92 0 0) 92 5 0 90 3 = ((0 : Nat) : Int) := by rw [zup_ne (by decide), zup_ne (by decide), zup_miss (by decide), zup_hit]; rfl
    have m4 : zup (zup (zup (zup ν 90 3 0) 90 5 0) 92 0 0) 92 5 0 90 5 = ((0 : Nat) : Int) := by rw [zup_ne (by decide), zup_ne (by decide), zup_hit]; rfl
    have m5 : zup (zup (zup (zup ν 90 3 0) 90 5 0) 92 0 0) 92 5 0 92 5 = ((0 : Nat) : Int) := zup_hit
    have m6 : zup (zup (zup (zup ν 90 3 0) 90 5 0) 92 0 0) 92 5 0 92 0 = ((0 : Nat) : Int) := by rw [zup_miss (by decide), zup_hit]; rfl
    have m7 : ∀ b : Int, ¬ (90 ≤ b ∧ b ≤ 98) → zup (zup (zup (zup ν 90 3 0) 90 5 0) 92 0 0) 92 5 0 b = μ b := fun b hb => by rw [zup_ne (by omega), zup_ne (by omega), zup_ne (by omega), zup_ne (by omega)]; exact f b hb
    generalize zup (zup (zup (zup ν 90 3 0) 90 5 0) 92 0 0) 92 5 0 = ρ at *
    refine k_advance0 (T := T) (L := L) (p := 0) (by omega) m1 m2 hL4 m3 (by omega) (fun ν4 n1 n2 n3 => ?_)
    refine k_cLoop (T := T) (L := L) hd 12 0 (by omega) ν4 (zbl T L 0) 0 0 g wt ws n3 (by rw [n2 5 (by decide) (by decide) (by decide)]; exact m4) (by omega) (by rw [n1 92 (by decide)]; exact m5) (by omega) (by rw [n1 92 (by decide)]; exact m6) ⟨?_, fun c c0 c1 => ?_⟩ (fun F c v _ c0 c1 => by omega) (fun q' ν5 e5 f5 => hf q' ν5 e5 (fun b hb => ?_)) (fun q' n g' wt' ws' ν5 e5 f5 a b c => hs' q' n g' wt' ws' ν5 e5 (fun b hb => ?_) a b c)
    · rw [n1 92 (by decide), m5, m6]; omega
    · rw [n1 92 (by decide), m6] at c1; omega
    · rw [f5.1 b (by omega) (by omega), n1 b (by omega)]; exact m7 b hb
    · rw [f5.1 b (by omega) (by omega), n1 b (by omega)]; exact m7 b hb
  have lp : ∀ m i : Nat, i + m = L → ∀ ν : zM, (∀ b : Int, ¬ (90 ≤ b ∧ b ≤ 98) → ν b = μ b) → ν 90 1 = L → (∀ j : Int, 0 ≤ j → j < i → ν 91 j = T j) → zE X true l d 0 0 y_Reader_read 17 [some (5, 0, 90), some (14, 400, 89), none, some (0, 0, (i : Int))] [] ν (zri Q) := by
    intro m
    induction m with
    | zero =>
      intro i hi ν f e1 et
      have : i = L := by omega
      subst this
      exact s_Reader_read_17 (a0 := 90) (d1 := d - 1) (by omega) ⟨fun _ => start ν f e1 et, fun z => absurd (by rw [e1]; omega) z⟩
    | succ m ih =>
      intro i hi ν f e1 et
      refine s_Reader_read_17 (a0 := 90) (d1 := d - 1) (by omega) ⟨fun z => absurd z (by rw [e1]; omega), fun _ => ⟨fun z => absurd z (by omega), fun _ => ⟨by omega, by omega, ?_⟩⟩⟩
      rw [zw_of (by omega) (by omega)]
      refine ih (i + 1) (by omega) _ (fun b hb => by rw [zup_ne (by omega)]; exact f b hb) (by rw [zup_ne (by decide)]; exact e1) (fun j j0 j1 => ?_)
      by_cases ej : j = i
      · subst ej
        show zup ν 91 i (ν 89 i) 91 i = _
        rw [zup_hit, f 89 (by omega)]
        exact hT i j0 (by omega)
      · show zup ν 91 i (ν 89 i) 91 j = _
        rw [zup_miss (fun z => ej z.2)]
        exact et j j0 (by omega)
  exact lp L 0 (by omega) _ (fun b hb => zup_ne (by omega)) zup_hit (fun j j0 j1 => by omega)
end

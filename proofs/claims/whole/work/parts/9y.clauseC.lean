/-! law: clauses, pure; the class's clause -/
def zK0 : zSem := fun _ => some 1
def zPk (T : Int → Int) (L q lv : Nat) : Nat × Nat × Option (Int × zSem × zSem) :=
  if zsr T L q = 1 ∧ (zwo T L q = 239 ∨ zwo T L q = 277892) then
    (match zPp T L 5000 3 0 (znx T L q) lv zK0 with
    | none => (q, lv, none)
    | some (q1, lv1, none) => (q1, lv1, none)
    | some (q1, lv1, some s) =>
      if zsr T L q1 = 1 ∧ zwo T L q1 = 294 then
        (match zPp T L 5000 8 0 (znx T L q1) lv1 zK0 with
        | none => (q1, lv1, none)
        | some (q2, lv2, none) => (q2, lv2, none)
        | some (q2, lv2, some t) => (q2, lv2, some (if zwo T L q = 239 then 1 else 0, s, t)))
      else (q1, lv1, some (if zwo T L q = 239 then 1 else 0, s, zK0)))
  else (q, lv, none)
section
variable {T : Int → Int} {L q lv : Nat}
theorem zPk_no (c : ¬ (zsr T L q = 1 ∧ (zwo T L q = 239 ∨ zwo T L q = 277892))) : zPk T L q lv = (q, lv, none) := by
  unfold zPk; rw [if_neg c]
theorem zPk_f1 {q1 lv1 : Nat} (c : zsr T L q = 1 ∧ (zwo T L q = 239 ∨ zwo T L q = 277892)) (e : zPp T L 5000 3 0 (znx T L q) lv zK0 = some (q1, lv1, none)) : zPk T L q lv = (q1, lv1, none) := by
  unfold zPk; rw [if_pos c, e]
theorem zPk_s1 {q1 lv1 : Nat} {s : zSem} (c : zsr T L q = 1 ∧ (zwo T L q = 239 ∨ zwo T L q = 277892)) (e : zPp T L 5000 3 0 (znx T L q) lv zK0 = some (q1, lv1, some s)) (n : ¬ (zsr T L q1 = 1 ∧ zwo T L q1 = 294)) : zPk T L q lv = (q1, lv1, some (if zwo T L q = 239 then 1 else 0, s, zK0)) := by
  unfold zPk; rw [if_pos c, e]; show (if zsr T L q1 = 1 ∧ zwo T L q1 = 294 then _ else _) = _; rw [if_neg n]
theorem zPk_f2 {q1 lv1 q2 lv2 : Nat} {s : zSem} (c : zsr T L q = 1 ∧ (zwo T L q = 239 ∨ zwo T L q = 277892)) (e : zPp T L 5000 3 0 (znx T L q) lv zK0 = some (q1, lv1, some s)) (n : zsr T L q1 = 1 ∧ zwo T L q1 = 294) (e2 : zPp T L 5000 8 0 (znx T L q1) lv1 zK0 = some (q2, lv2, none)) : zPk T L q lv = (q2, lv2, none) := by
  unfold zPk; rw [if_pos c, e]; show (if zsr T L q1 = 1 ∧ zwo T L q1 = 294 then _ else _) = _; rw [if_pos n, e2]
theorem zPk_s2 {q1 lv1 q2 lv2 : Nat} {s t : zSem} (c : zsr T L q = 1 ∧ (zwo T L q = 239 ∨ zwo T L q = 277892)) (e : zPp T L 5000 3 0 (znx T L q) lv zK0 = some (q1, lv1, some s)) (n : zsr T L q1 = 1 ∧ zwo T L q1 = 294) (e2 : zPp T L 5000 8 0 (znx T L q1) lv1 zK0 = some (q2, lv2, some t)) : zPk T L q lv = (q2, lv2, some (if zwo T L q = 239 then 1 else 0, s, t)) := by
  unfold zPk; rw [if_pos c, e]; show (if zsr T L q1 = 1 ∧ zwo T L q1 = 294 then _ else _) = _; rw [if_pos n, e2]
theorem zPp_get {md dp : Nat} {a : zSem} (hm : md = 3 ∨ md = 8) (hq : q ≤ L) (hL : L ≤ 400) (hlv : lv ≤ 50) : ∃ q1 lv1 r, zPp T L 5000 md dp q lv a = some (q1, lv1, r) := by
  have : zrk md ≤ 6 := by rcases hm with e | e <;> rw [e] <;> decide
  obtain ⟨⟨q1, lv1, r⟩, e⟩ := zPp_tot (T := T) (L := L) 5000 md dp q lv a (by omega) hq hlv (by omega)
  exact ⟨q1, lv1, r, e⟩
end
def zFg (μ ν : zM) : Prop := (∀ b : Int, b ≠ 90 → ¬ (92 ≤ b ∧ b ≤ 98) → ν b = μ b) ∧ ∀ j : Int, ¬ (2 ≤ j ∧ j ≤ 5) → ν 90 j = μ 90 j
theorem zFg.trans {μ ν ρ : zM} (h : zFg μ ν) (k : zFg ν ρ) : zFg μ ρ := ⟨fun b h1 h2 => (k.1 b h1 h2).trans (h.1 b h1 h2), fun j hj => (k.2 j hj).trans (h.2 j hj)⟩
theorem zFb.g {μ ν : zM} (h : zFb μ ν) : zFg μ ν := ⟨fun b h1 h2 => h.1 b h1 (by omega) (by omega) (by omega), h.2.1⟩
theorem zFg.up {μ ν : zM} {a i v : Int} (h : zFg μ ν) (ha : 92 ≤ a ∧ a ≤ 98) : zFg μ (zup ν a i v) := ⟨fun b h1 h2 => by rw [zup_ne (by omega)]; exact h.1 b h1 h2, fun j hj => by rw [zup_ne (by omega)]; exact h.2 j hj⟩
/-- a clause, read: the draft's c-th -/
def zCp (T : Int → Int) (L : Nat) (μ ν : zM) (s c q' lv' : Nat) (g : Int) (ws wt : zSem) : Prop := zFg μ ν ∧ zTc ν T L q' ∧ ν 90 5 = lv' ∧ lv' ≤ 50 ∧ ν 92 0 = ((c + 1 : Nat) : Int) ∧ (∀ i : Int, i < s → ν 97 i = μ 97 i ∧ ν 98 i = μ 98 i) ∧ (∀ k i : Int, 93 ≤ k → k ≤ 96 → i ≠ c → ν k i = μ k i) ∧ (ν 93 c = g ∧ (g = 0 ∨ g = 1)) ∧ zGd 3 ws ∧ zGd 8 wt ∧
  ∃ s1 s2 : Nat, ν 92 5 = s2 ∧ ν 94 c = s ∧ ν 95 c = s1 ∧ ν 96 c = s2 ∧ s < s1 ∧ s1 ≤ s2 ∧ s2 ≤ q' ∧ (∃ D : Nat, D ≤ 64 ∧ zTl (ν 97) (ν 98) s s1 ws D) ∧ (s1 < s2 → ∃ D : Nat, D ≤ 64 ∧ zTl (ν 97) (ν 98) s1 s2 wt D) ∧ (s2 ≤ s1 → wt = zK0)
section
variable {X : zX} {l : Launch} {μ : zM} {T : Int → Int} {L : Nat}
theorem k_cClause {d c q lv s : Nat} {Q : Int → zM → Prop} (hd : 60 ≤ d) (ht : zTc μ T L q) (h5 : μ 90 5 = lv) (hlv : lv ≤ 50) (hs : μ 92 5 = s) (hsq : s ≤ q) (hc : c < 12)
    (h0 : ∀ q' lv' ν, zPk T L q lv = (q', lv', none) → zFg μ ν → zTc ν T L q' → Q 0 ν)
    (h1 : ∀ q' lv' g ws wt ν, zPk T L q lv = (q', lv', some (g, ws, wt)) → zCp T L μ ν s c q' lv' g ws wt → Q 1 ν) : zCi X true l d 0 0 y_Reader_readClause [(5, 0, 90), (0, 0, (c : Int))] μ Q := by
  have hqL := ht.2.2.2.2.2.1
  have hL4 := ht.2.2.2.2.2.2
  have nq := znx_bd (T := T) hqL
  obtain ⟨_, _, ks, _, _, k8, _⟩ := k_cls (X := X) (l := l) (T := T) (L := L) 5000
  have main : ∀ x : Int, (x = 0 ∨ x = 1) → (zsr T L q = 1 ∧ (zwo T L q = 239 ∨ zwo T L q = 277892)) → x = (if zwo T L q = 239 then 1 else 0) → zE X true l d 0 0 y_Reader_readClause 22 [some (5, 0, 90), some (0, 0, (c : Int)), some (0, 0, x)] [] μ (zri Q) := fun x hx g eg => by
    have nq2 := nq.2.2 (by have := g.1; omega)
    refine s_Reader_readClause_22 (a0 := 90) (d1 := d - 1) (by omega) (k_adv (by omega) ht (fun ν1 t1 f1 g1 b1 => ⟨hx, by omega, by omega, ?_⟩))
    simp only [Int.reduceAdd]
    have e5 : zup ν1 93 c x 92 5 = s := by rw [zup_ne (by decide), f1 92 (by decide)]; exact hs
    rw [e5]
    have t2 : zTc (zup (zup ν1 93 c x) 94 c s) T L (znx T L q) := t1.k90 (by rw [zup_ne (by decide), zup_ne (by decide)]) (by rw [zup_ne (by decide), zup_ne (by decide)])
    have l2 : (zup (zup ν1 93 c x) 94 c s) 90 5 = lv := by rw [zup_ne (by decide), zup_ne (by decide), g1]; exact h5
    have s2 : (zup (zup ν1 93 c x) 94 c s) 92 5 = s := by rw [zup_ne (by decide)]; exact e5
    have F2 : zFg μ (zup (zup ν1 93 c x) 94 c s) := (b1.g.up (by omega)).up (by omega)
    have c2 : ∀ i : Int, (zup (zup ν1 93 c x) 94 c s) 97 i = μ 97 i ∧ (zup (zup ν1 93 c x) 94 c s) 98 i = μ 98 i := fun i => ⟨by rw [zup_ne (by decide), zup_ne (by decide), f1 97 (by decide)], by rw [zup_ne (by decide), zup_ne (by decide), f1 98 (by decide)]⟩
    have v93 : (zup (zup ν1 93 c x) 94 c s) 93 c = x := by rw [zup_ne (by decide), zup_hit]
    have v94 : (zup (zup ν1 93 c x) 94 c s) 94 c = s := zup_hit
    have vk : ∀ k i : Int, 93 ≤ k → k ≤ 96 → i ≠ c → (zup (zup ν1 93 c x) 94 c s) k i = μ k i := fun k i k1 k2 hi => by rw [zup_miss (fun z => hi z.2), zup_miss (fun z => hi z.2), f1 k (by omega)]
    generalize zup (zup ν1 93 c x) 94 c s = μ2 at *
    obtain ⟨q1, lv1, r, e1⟩ := zPp_get (T := T) (L := L) (q := znx T L q) (lv := lv) (md := 3) (dp := 0) (a := zK0) (Or.inl rfl) nq.1 hL4 hlv
    have far := zPp_far _ _ _ _ _ _ _ _ _ (by decide) nq.1 hlv e1
    refine ks (d - 1) 0 _ _ s _ _ _ _ μ2 _ e1 (by omega) (by show 4 * (8 - 0) + 12 ≤ d - 1; omega) t2 l2 hlv s2 (by omega) (fun v ν3 p => ?_)
    cases r with
    | none =>
      obtain ⟨rfl, pf, pt⟩ := p.1 rfl
      exact ⟨fun z => absurd rfl z, fun _ => h0 _ _ ν3 (zPk_f1 g e1) (F2.trans pf.g) pt⟩
    | some w =>
      obtain ⟨rfl, pf, pt, p5, pG, s1, D, ps, p1, p2, p3, p4, pT⟩ := p.2 w rfl
      refine ⟨fun _ => ⟨by omega, ?_⟩, fun z => absurd z (by decide)⟩
      rw [ps]
      have t3 : zTc (zup ν3 95 c s1) T L q1 := pt.k90 (zup_ne (by decide)) (zup_ne (by decide))
      have F3 : zFg μ (zup ν3 95 c s1) := (F2.trans pf.1.g).up (by omega)
      have l3 : zup ν3 95 c s1 90 5 = lv1 := by rw [zup_ne (by decide)]; exact p5
      have s3 : zup ν3 95 c s1 92 5 = s1 := by rw [zup_ne (by decide)]; exact ps
      have c3 : ∀ i : Int, i < s → zup ν3 95 c s1 97 i = μ 97 i ∧ zup ν3 95 c s1 98 i = μ 98 i := fun i hi => ⟨by rw [zup_ne (by decide)]; exact ((pf.2 i hi).1).trans (c2 i).1, by rw [zup_ne (by decide)]; exact ((pf.2 i hi).2).trans (c2 i).2⟩
      have w93 : zup ν3 95 c s1 93 c = x := by rw [zup_ne (by decide), pf.1.1 93 (by decide) (by decide) (by decide) (by decide)]; exact v93
      have w94 : zup ν3 95 c s1 94 c = s := by rw [zup_ne (by decide), pf.1.1 94 (by decide) (by decide) (by decide) (by decide)]; exact v94
      have w95 : zup ν3 95 c s1 95 c = s1 := zup_hit
      have wk : ∀ k i : Int, 93 ≤ k → k ≤ 96 → i ≠ c → (zup ν3 95 c s1) k i = μ k i := fun k i k1 k2 hi => by rw [zup_miss (fun z => hi z.2), pf.1.1 k (by omega) (by omega) (by omega) (by omega)]; exact vk k i k1 k2 hi
      have T3 : zTl (zup ν3 95 c s1 97) (zup ν3 95 c s1 98) s s1 w D := by rw [zup_ne (by decide), zup_ne (by decide)]; exact pT
      generalize zup ν3 95 c s1 = μ3 at *
      have hD : D ≤ 64 := by have := far.2.2.2.1; omega
      have q1L := pt.2.2.2.2.2.1
      -- the end of the clause
      have fin : ∀ (ν : zM) (q' lv' s' : Nat) (wt : zSem), zPk T L q lv = (q', lv', some (x, w, wt)) → zFg μ ν → zTc ν T L q' → ν 90 5 = lv' → lv' ≤ 50 → (∀ i : Int, i < s1 → ν 97 i = μ3 97 i ∧ ν 98 i = μ3 98 i) → (∀ b : Int, 93 ≤ b → b ≤ 96 → ν b = μ3 b) → ν 92 5 = s' → s1 ≤ s' → s' ≤ q' → zGd 8 wt → (s1 < s' → ∃ D : Nat, D ≤ 64 ∧ zTl (ν 97) (ν 98) s1 s' wt D) → (s' ≤ s1 → wt = zK0) → zE X true l d 0 0 y_Reader_readClause 101 [some (5, 0, 90), some (0, 0, (c : Int)), none] [] ν (zri Q) := fun ν q' lv' s' wt ek f t l5 l50 cc ck es hs1 hs2 hG hT hz => by
        refine s_Reader_readClause_101 (a0 := 90) ⟨by omega, ?_⟩
        simp only [Int.reduceAdd]
        rw [es, zw_of (by omega) (by omega)]
        refine h1 q' lv' x w wt _ ek ⟨(f.up (by omega)).up (by omega), t.k90 (by rw [zup_ne (by decide), zup_ne (by decide)]) (by rw [zup_ne (by decide), zup_ne (by decide)]), by rw [zup_ne (by decide), zup_ne (by decide)]; exact l5, l50, zup_hit, fun i hi => ?_, fun k i k1 k2 hi => ?_, ⟨?_, hx⟩, pG, hG, s1, s', ?_, ?_, ?_, ?_, p1, hs1, hs2, ⟨D, hD, ?_⟩, ?_, hz⟩
        · rw [zup_ne (by decide), zup_ne (by decide), zup_ne (by decide), zup_ne (by decide)]
          exact ⟨((cc i (by omega)).1).trans (c3 i hi).1, ((cc i (by omega)).2).trans (c3 i hi).2⟩
        · rw [zup_ne (by omega), zup_miss (fun z => hi z.2), ck k k1 k2]; exact wk k i k1 k2 hi
        · rw [zup_ne (by decide), zup_ne (by decide), ck 93 (by decide) (by decide)]; exact w93
        · rw [zup_miss (by decide), zup_ne (by decide)]; exact es
        · rw [zup_ne (by decide), zup_ne (by decide), ck 94 (by decide) (by decide)]; exact w94
        · rw [zup_ne (by decide), zup_ne (by decide), ck 95 (by decide) (by decide)]; exact w95
        · rw [zup_ne (by decide), zup_hit]
        · rw [zup_ne (by decide), zup_ne (by decide), zup_ne (by decide), zup_ne (by decide)]
          exact T3.keep (fun i _ hi => cc i hi)
        · rw [zup_ne (by decide), zup_ne (by decide), zup_ne (by decide), zup_ne (by decide)]
          exact hT
      refine k_isWord (j := 2) (by omega) (by decide) t3 (fun g2 => ⟨fun z => absurd z (by decide), fun _ => ?_⟩) (fun g2 => ⟨fun _ => ?_, fun z => absurd rfl z⟩)
      · have g2' : zsr T L q1 = 1 ∧ zwo T L q1 = 294 := g2
        have nq1 := znx_bd (T := T) q1L
        have nq3 := nq1.2.2 (by have := g2'.1; omega)
        refine k_adv (by omega) t3 (fun ν4 t4 f4 g4 b4 => ?_)
        obtain ⟨q2, lv2, r2, e2⟩ := zPp_get (T := T) (L := L) (q := znx T L q1) (lv := lv1) (md := 8) (dp := 0) (a := zK0) (Or.inr rfl) nq1.1 hL4 far.2.2.2.1
        have far2 := zPp_far _ _ _ _ _ _ _ _ _ (by decide) nq1.1 far.2.2.2.1 e2
        refine k8 (d - 1) 0 _ _ s1 _ _ _ _ ν4 _ e2 (by omega) (by show 4 * (8 - 0) + 15 ≤ d - 1; omega) t4 (g4.trans l3) far.2.2.2.1 (by rw [f4 92 (by decide)]; exact s3) (by omega) (fun v ν5 p' => ?_)
        cases r2 with
        | none =>
          obtain ⟨rfl, rf, rt⟩ := p'.1 rfl
          exact ⟨fun z => absurd rfl z, fun _ => h0 _ _ ν5 (zPk_f2 g e1 g2' e2) (F3.trans (b4.g.trans rf.g)) rt⟩
        | some w2 =>
          obtain ⟨rfl, rf, rt, r5, rG, s2', D2, rs, r1, r2, r3, r4, rT⟩ := p'.2 w2 rfl
          refine ⟨fun _ => fin ν5 q2 lv2 s2' w2 (by rw [eg]; exact zPk_s2 g e1 g2' e2) (F3.trans (b4.g.trans rf.1.g)) rt r5 far2.2.2.2.1 (fun i hi => ⟨((rf.2 i hi).1).trans (by rw [f4 97 (by decide)]), ((rf.2 i hi).2).trans (by rw [f4 98 (by decide)])⟩) (fun b h1 h2 => (rf.1.1 b (by omega) (by omega) (by omega) (by omega)).trans (f4 b (by omega))) rs (by omega) (by omega) rG (fun _ => ⟨D2, by have := far2.2.2.2.1; omega, rT⟩) (fun z => by omega), fun z => absurd z (by decide)⟩
      · exact fin μ3 q1 lv1 s1 zK0 (by rw [eg]; exact zPk_s1 g e1 g2) F3 t3 l3 far.2.2.2.1 (fun i _ => ⟨rfl, rfl⟩) (fun b _ _ => rfl) s3 (by omega) (by omega) (fun F v _ ev => by cases ev; exact ⟨fun z => by omega, fun _ => Or.inr rfl⟩) (fun z => by omega) (fun _ => rfl)
  refine c_Reader_readClause (a0 := 90) (d1 := d - 1) (by omega) (k_isWord (j := 0) (by omega) (by decide) ht (fun g => ⟨fun _ => ?_, fun z => absurd z (by decide)⟩) (fun g => ⟨fun z => absurd rfl z, fun _ => ?_⟩))
  · have g' : zsr T L q = 1 ∧ zwo T L q = 239 := g
    exact main 1 (Or.inr rfl) ⟨g'.1, Or.inl g'.2⟩ (by rw [if_pos g'.2])
  · have g' : ¬ (zsr T L q = 1 ∧ zwo T L q = 239) := g
    refine k_isWord (j := 1) (by omega) (by decide) ht (fun g2 => ⟨fun _ => ?_, fun z => absurd z (by decide)⟩) (fun g2 => ⟨fun z => absurd rfl z, fun _ => ?_⟩)
    · have g3 : zsr T L q = 1 ∧ zwo T L q = 277892 := g2
      exact main 0 (Or.inl rfl) ⟨g3.1, Or.inr g3.2⟩ (by rw [if_neg (fun z => g' ⟨g3.1, z⟩)])
    · have g3 : ¬ (zsr T L q = 1 ∧ zwo T L q = 277892) := g2
      exact h0 q lv μ (zPk_no (fun z => by rcases z.2 with y | y; exact g' ⟨z.1, y⟩; exact g3 ⟨z.1, y⟩)) ⟨fun _ _ _ => rfl, fun _ _ => rfl⟩ ht
end

/-! law: the class's reader, mode by mode -/
theorem zno_zno (w : zSem) : zno (zno w) = w := by
  funext F
  unfold zno
  cases w F with
  | none => rfl
  | some v => show some (1 - (1 - v)) = some v; congr 1; omega
theorem zGd.cv {md md' : Nat} {w : zSem} (h : zGd md w) (c : md < 5 ↔ md' < 5) : zGd md' w := fun F v hF e => ⟨fun z => (h F v hF e).1 (by omega), fun z => (h F v hF e).2 (by omega)⟩
theorem zin_b9 {x v : Int} (h : zin x = some v) : zb9 v := by
  unfold zin at h
  split at h
  · cases h; assumption
  · cases h
theorem zjn_b96 {κ x y v : Int} (h : zjn κ x y = some v) : zb9 v ∧ (6 ≤ κ → v = 0 ∨ v = 1) := by
  unfold zjn at h
  split at h
  · exact ⟨zin_b9 h, fun c => by omega⟩
  split at h
  · exact ⟨zin_b9 h, fun c => by omega⟩
  split at h
  · exact ⟨zin_b9 h, fun c => by omega⟩
  split at h
  · split at h
    · cases h
    · exact ⟨zin_b9 h, fun c => by omega⟩
  have k01 : v = 0 ∨ v = 1 := by
    split at h
    · cases h; split <;> simp
    split at h
    · cases h; split <;> simp
    · cases h; split <;> simp
  exact ⟨by unfold zb9; omega, fun _ => k01⟩
theorem zGd.j2 {κ : Int} {md : Nat} {a w : zSem} (c : 5 ≤ md → 6 ≤ κ) : zGd md (zj2 κ a w) := by
  intro F v hF e
  unfold zj2 zjo at e
  cases h1 : a F with
  | none => rw [h1] at e; cases e
  | some x =>
    cases h2 : w F with
    | none => rw [h1, h2] at e; cases e
    | some y =>
      rw [h1, h2] at e
      have := zjn_b96 (show zjn κ x y = some v from e)
      exact ⟨fun _ => this.1, fun z => this.2 (c z)⟩
theorem zGd.ao {κ : Int} {md : Nat} {a w : zSem} (h1 : zGd md a) (h2 : zGd md w) : zGd md (zao κ a w) := by
  intro F v hF e
  unfold zao zaq at e
  cases e1 : a F with
  | none => rw [e1] at e; cases e
  | some x =>
    rw [e1] at e
    have e' : (if x = (if κ = 10 then 1 else 0) then some x else w F) = some v := e
    by_cases hx : x = (if κ = 10 then 1 else 0)
    · rw [if_pos hx] at e'
      cases e'; exact h1 F _ hF e1
    · rw [if_neg hx] at e'
      exact h2 F v hF e'
theorem zGd.no {a : zSem} (h1 : zGd 5 a) : zGd 5 (zno a) := by
  intro F v hF e
  unfold zno at e
  cases e1 : a F with
  | none => rw [e1] at e; cases e
  | some x =>
    rw [e1] at e
    have e' : some (1 - x) = some v := e
    have := (h1 F x hF e1).2 (by omega)
    cases e'
    exact ⟨fun z => by omega, fun _ => by omega⟩
section
variable {T : Int → Int} {L : Nat}
theorem znh_rng {q : Nat} (hq : q ≤ L) : znh T L q = -1 ∨ (0 ≤ znh T L q ∧ znh T L q ≤ 1000) := by
  unfold znh
  split
  · rename_i h2
    split
    · exact Or.inl rfl
    · refine Or.inr ⟨?_, by omega⟩
      have := zen_bd (T := T) hq
      exact (znf_nn (T := T) _ (fun i hi => zsr_2 (by rw [zen_in (Or.inr h2) (by omega) (by omega)]; exact h2))).1
  · exact Or.inl rfl
theorem zwi_rng {q : Nat} : ∀ n j : Nat, zwi T L q n j = -1 ∨ ((j : Int) ≤ zwi T L q n j ∧ zwi T L q n j < ((j + n : Nat) : Int))
  | 0, j => Or.inl rfl
  | n + 1, j => by
    unfold zwi
    split
    · exact Or.inr ⟨by omega, by omega⟩
    · rcases zwi_rng n (j + 1) with h | h
      · exact Or.inl h
      · exact Or.inr ⟨by omega, by omega⟩
theorem zwh_rng {q : Nat} : zwh T L q = -1 ∨ (0 ≤ zwh T L q ∧ zwh T L q < 12) := by
  rcases zwi_rng (T := T) (L := L) (q := q) 12 0 with h | h
  · exact Or.inl h
  · exact Or.inr ⟨h.1, h.2⟩
end
def zPs (T : Int → Int) (L : Nat) (μ : zM) (s q lv md q' lv' : Nat) (r : Option zSem) (v : Int) (ν : zM) : Prop :=
  (r = none → v = 0 ∧ zFb μ ν ∧ zTc ν T L q') ∧ (∀ w, r = some w → v = 1 ∧ zFc μ ν s ∧ zTc ν T L q' ∧ ν 90 5 = lv' ∧ zGd md w ∧ ∃ s' D : Nat, ν 92 5 = s' ∧ s < s' ∧ s' + q ≤ s + q' ∧ 1 ≤ D ∧ D + lv ≤ lv' ∧ zTl (ν 97) (ν 98) s s' w D)
theorem zPs.fail {T : Int → Int} {L : Nat} {μ : zM} {s q lv md q' lv' : Nat} {ν : zM} (h1 : zFb μ ν) (h2 : zTc ν T L q') : zPs T L μ s q lv md q' lv' none 0 ν := ⟨fun _ => ⟨rfl, h1, h2⟩, fun w c => by cases c⟩
theorem zPs.good {T : Int → Int} {L : Nat} {μ : zM} {s q lv md q' lv' s' D : Nat} {ν : zM} {w : zSem} (h1 : zFc μ ν s) (h2 : zTc ν T L q') (h3 : ν 90 5 = lv') (h4 : zGd md w) (h5 : ν 92 5 = s') (h6 : s < s') (h7 : s' + q ≤ s + q') (h8 : 1 ≤ D) (h9 : D + lv ≤ lv') (h10 : zTl (ν 97) (ν 98) s s' w D) : zPs T L μ s q lv md q' lv' (some w) 1 ν := ⟨fun c => (by cases c), fun w c => by cases c; exact ⟨rfl, h1, h2, h3, h4, s', D, h5, h6, h7, h8, h9, h10⟩⟩
def zKc (X : zX) (l : Launch) (T : Int → Int) (L n md : Nat) : Prop := ∀ (d dp q lv s q' lv' : Nat) (a : zSem) (r : Option zSem) (μ : zM) (Q : Int → zM → Prop), zPp T L n md dp q lv a = some (q', lv', r) → dp ≤ 8 → 4 * (8 - dp) + zdc md ≤ d → zTc μ T L q → μ 90 5 = lv → lv ≤ 50 → μ 92 5 = s → s ≤ q → (∀ v ν, zPs T L μ s q lv md q' lv' r v ν → Q v ν) → zCi X true l d 0 0 (zym md) [(5, 0, 90), (0, 0, (dp : Int))] μ Q
def zKt (X : zX) (l : Launch) (T : Int → Int) (L n md : Nat) : Prop := ∀ (d dp i q lv s s0 q0 lv0 D0 q' lv' : Nat) (a : zSem) (r : Option zSem) (μ : zM) (Q : Int → zM → Prop), zPp T L n md dp q lv a = some (q', lv', r) → dp ≤ 8 → 4 * (8 - dp) + zdc md ≤ d → zTc μ T L q → μ 90 5 = lv → lv ≤ 50 → μ 92 5 = s → s0 < s → s + q0 ≤ s0 + q → s0 ≤ q0 → i ≤ q → 1 ≤ D0 → D0 + lv0 ≤ lv → zTl (μ 97) (μ 98) s0 s a D0 → zGd md a → (∀ v ν, zPs T L μ s0 q0 lv0 md q' lv' r v ν → Q v ν) → zE X true l d 0 0 (zym (md - 1)) 8 [some (5, 0, 90), some (0, 0, (dp : Int)), some (0, 0, 1), some (0, 0, (i : Int)), none] [] μ (zri Q)
def zKl (X : zX) (l : Launch) (T : Int → Int) (L n : Nat) : Prop := ∀ (d dp i x q0 q lv s q' lv' : Nat) (a : zSem) (r : Option zSem) (μ : zM) (Q : Int → zM → Prop), zPp T L n 5 dp q lv a = some (q', lv', r) → dp ≤ 8 → 4 * (8 - dp) + zdc 5 ≤ d → zTc μ T L q → μ 90 5 = lv → lv ≤ 50 → μ 92 5 = s → x < 2 → q0 + x ≤ q → s ≤ q0 → i ≤ q → (∀ v ν, zPs T L μ s q0 lv 5 q' lv' (if x = 1 then r.map zno else r) v ν → Q v ν) → zE X true l d 0 0 y_Reader_readPlain 4 [some (5, 0, 90), some (0, 0, (dp : Int)), some (0, 0, (x : Int)), some (0, 0, (i : Int))] [] μ (zri Q)
theorem zFc.adv {μ ν : zM} {s : Int} (h : zFb μ ν) (k : ∀ b : Int, b ≠ 90 → ν b = μ b) : zFc μ ν s := ⟨h, fun i _ => ⟨by rw [k 97 (by decide)], by rw [k 98 (by decide)]⟩⟩
section
variable {X : zX} {l : Launch} {T : Int → Int} {L n : Nat}
theorem kc_0 (h3 : zKc X l T L n 3) : zKc X l T L (n + 1) 0 := by
  intro d dp q lv s q' lv' a r μ Q e hdp hd ht h5 hlv hs hsq hQ
  rw [zPp_0] at e
  have hd' : 4 * (8 - dp) + 10 ≤ d := hd
  have hqL := ht.2.2.2.2.2.1
  have hL4 := ht.2.2.2.2.2.2
  have nq := znx_bd (T := T) hqL
  show zCi X true l d 0 0 y_Reader_readPart _ μ Q
  refine c_Reader_readPart (d1 := d - 1) (by omega) (k_isSign ht (fun g => ⟨fun c => absurd c (by omega), fun _ => ?_⟩) (fun g => ⟨fun _ => ?_, fun c => absurd rfl c⟩))
  · unfold zsg at g
    rw [if_pos g] at e
    refine c_Reader_readBracketedSum (d1 := d - 2) (by omega) ⟨fun c8 => ?_, fun c8 => ?_⟩
    · rw [if_pos (show dp < 8 by omega)] at e
      refine k_adv (by omega) ht (fun ν1 t1 f1 g1 b1 => ?_)
      rw [zw_of (by omega) (by omega)]
      have nq2 := nq.2.2 (by have := g.1; omega)
      have hs1 : ν1 92 5 = s := by rw [f1 92 (by decide)]; exact hs
      rcases zbd_some e with ⟨q1, lv1, e1, e2⟩ | ⟨q1, lv1, w, e1, e2⟩
      · cases e2
        refine h3 (d - 2) (dp + 1) _ _ s _ _ _ _ ν1 _ e1 (by omega) (by show 4 * (8 - (dp + 1)) + 12 ≤ d - 2; omega) t1 (g1.trans h5) hlv hs1 (by omega) (fun v ν p => ?_)
        obtain ⟨rfl, pf, pt⟩ := p.1 rfl
        exact ⟨fun _ => ⟨Or.inl rfl, hQ 0 ν (zPs.fail (b1.trans pf) pt)⟩, fun c => absurd rfl c⟩
      · refine h3 (d - 2) (dp + 1) _ _ s _ _ _ _ ν1 _ e1 (by omega) (by show 4 * (8 - (dp + 1)) + 12 ≤ d - 2; omega) t1 (g1.trans h5) hlv hs1 (by omega) (fun v ν p => ?_)
        obtain ⟨rfl, pf, pt, p5, pG, s1, D, ps, p1, p2, p3, p4, pT⟩ := p.2 w rfl
        refine ⟨fun c => absurd c (by omega), fun _ => k_isSign pt (fun g2 => ⟨fun _ => ?_, fun c => absurd c (by omega)⟩) (fun g2 => ⟨fun c => absurd rfl c, fun _ => ?_⟩)⟩
        · unfold zsg at g2
          rw [if_pos g2] at e2
          cases e2
          have nq3 := (znx_bd (T := T) pt.2.2.2.2.2.1).2.2 (by have := g2.1; omega)
          refine k_adv (by omega) pt (fun ν3 t3 f3 g3 b3 => ⟨Or.inr rfl, hQ 1 ν3 (zPs.good (s' := s1) (D := D) ((zFc.adv b1 f1).trans (pf.trans (zFc.adv b3 f3) (Int.le_refl _)) (Int.le_refl _)) t3 (g3.trans p5) (pG.cv (by decide)) ?_ p1 (by omega) p3 p4 ?_)⟩)
          · rw [f3 92 (by decide)]; exact ps
          · rw [f3 97 (by decide), f3 98 (by decide)]; exact pT
        · unfold zsg at g2
          rw [if_neg g2] at e2
          cases e2
          exact ⟨Or.inl rfl, hQ 0 ν (zPs.fail (b1.trans pf.1) pt)⟩
    · rw [if_neg (show ¬ dp < 8 by omega)] at e
      cases e
      exact ⟨Or.inl rfl, hQ 0 μ (zPs.fail zFb.refl ht)⟩
  · unfold zsg at g
    rw [if_neg g] at e
    have main : (znh T L q ≠ -1 ∨ zwh T L q ≠ -1) → zE X true l d 0 0 y_Reader_readPart 35 [some (5, 0, 90), none, some (0, 0, znh T L q), some (0, 0, zwh T L q)] [] μ (zri Q) := fun hl => by
      refine s_Reader_readPart_35 (d1 := d - 1) (by omega) ⟨fun c5 => ?_, fun c5 => ?_⟩
      · rw [h5] at c5
        have hlv5 : lv < 50 := by omega
        rw [if_pos ⟨hl, hlv5⟩] at e
        cases e
        have s0 : zsr T L q ≠ 0 := by
          intro z
          rcases hl with w | w
          · unfold znh at w; rw [if_neg (by omega)] at w; exact w rfl
          · apply w
            have : ∀ n j, zwi T L q n j = -1 := by
              intro n
              induction n with
              | zero => intro j; rfl
              | succ n ihn => intro j; rw [zwi_no (fun y => by have := y.1; omega)]; exact ihn _
            exact this 12 0
        have nq2 := nq.2.2 s0
        have hq2 : q < L := by
          have := (zsr_rng (T := T) (L := L) q).1
          exact Decidable.byContradiction (fun z => s0 (this.2 z))
        rw [h5, zw_of (by omega) (by omega)]
        refine k_put (s := s) (by rw [zup_ne (by decide)]; exact hs) (by omega) (fun ν1 f1 k0 k1 k7 k8 ks => ?_)
        have tz : zTc (zup μ 90 5 ((lv : Int) + 1)) T L q := ht.keep (zup_ne (by decide)) (fun j h1 h2 => zup_miss (by omega))
        have fz : zFc μ (zup μ 90 5 ((lv : Int) + 1)) s := ⟨⟨fun b h1 _ _ _ => zup_ne h1, fun j hj => zup_miss (by omega), fun j _ => by rw [zup_ne (by decide)]⟩, fun i _ => ⟨by rw [zup_ne (by decide)], by rw [zup_ne (by decide)]⟩⟩
        refine k_adv (by omega) (tz.k90 k0 k1) (fun ν2 t2 f2 g2 b2 => hQ 1 ν2 (zPs.good (s' := s + 1) (D := 1) (fz.trans (f1.trans (zFc.adv b2 f2) (Int.le_refl _)) (Int.le_refl _)) t2 ?_ ?_ ?_ (by omega) (by omega) (by omega) (by omega) ?_))
        · rw [g2, k0, zup_hit]; rfl
        · intro F v hF ev
          refine ⟨fun _ => ?_, fun c => by omega⟩
          split at ev
          · cases ev
            rcases znh_rng (T := T) hqL with z | z
            · rw [z]; unfold zb9; omega
            · unfold zb9; omega
          · rename_i hn
            cases ev
            rcases zwh_rng (T := T) (L := L) (q := q) with z | z
            · exact absurd z (by rcases hl with y | y; exact absurd y hn; exact y)
            · have := hF _ z.1 z.2
              unfold zb9; omega
        · rw [f2 92 (by decide)]; exact ks
        · rw [f2 97 (by decide), f2 98 (by decide)]
          intro F hF
          show zS5 (ν1 97) (ν1 98) F s ((s + 1 : Nat) : Int) 1 (if znh T L q ≠ -1 then some (znh T L q) else some (F (zwh T L q)))
          by_cases hn : znh T L q = -1
          · rw [if_neg (show ¬ znh T L q ≠ -1 from fun z => z hn)]
            rw [if_neg (show ¬ ¬ znh T L q = -1 from fun z => z hn)] at k7 k8
            rcases zwh_rng (T := T) (L := L) (q := q) with z | z
            · exact absurd z (by rcases hl with y | y; exact absurd hn y; exact y)
            · rw [← k8]
              exact zS5.wrd k7 (by rw [k8]; exact z.1) (by rw [k8]; exact z.2)
          · rw [if_pos (show znh T L q ≠ -1 from hn)]
            rw [if_pos (show ¬ znh T L q = -1 from hn)] at k7 k8
            rw [← k8]
            exact zS5.num k7
      · rw [h5] at c5
        rw [if_neg (fun z => by omega)] at e
        cases e
        exact hQ 0 μ (zPs.fail zFb.refl ht)
    refine k_numberHere (by omega) ht (k_wordHere (by omega) ht ⟨fun c => main (Or.inl c), fun c => ⟨fun c2 => ?_, fun c2 => main (Or.inr c2)⟩⟩)
    rw [if_neg (fun z => by rcases z.1 with y | y; exact y c; exact y c2)] at e
    cases e
    exact hQ 0 μ (zPs.fail zFb.refl ht)
theorem kt_2 (h1 : zKc X l T L n 0) (h2 : zKt X l T L n 2) : zKt X l T L (n + 1) 2 := by
  intro d dp i q lv s s0 q0 lv0 D0 q' lv' a r μ Q e hdp hd ht h5 hlv hs hs0 hsq hsq0 hi hD hDl hT hG hQ
  rw [zPp_2] at e
  have hd' : 4 * (8 - dp) + 11 ≤ d := hd
  have hqL := ht.2.2.2.2.2.1
  have hL4 := ht.2.2.2.2.2.2
  have nq := znx_bd (T := T) hqL
  have stop : ¬ (zsr T L q = 3 ∧ (T q = 42 ∨ T q = 47)) → Q 1 μ := fun c => by
    rw [if_neg c] at e
    cases e
    exact hQ 1 μ (zPs.good zFc.refl ht h5 hG hs hs0 hsq hD hDl hT)
  have go : zsr T L q = 3 ∧ (T q = 42 ∨ T q = 47) → zE X true l d 0 0 y_Reader_readTerm 37 [some (5, 0, 90), some (0, 0, (dp : Int)), none, some (0, 0, (i : Int)), none] [] μ (zri Q) := fun g => by
    rw [if_pos g] at e
    have nq2 := nq.2.2 (by have := g.1; omega)
    refine s_Reader_readTerm_37 (d1 := d - 1) (by omega) ?_
    have step : ∀ v2 : Int, (if v2 = 0 then (5 : Int) else 4) = (if T q = 42 then 4 else 5) → (zCv X true l (d - 1) 0 0 y_Reader_advance [(5, 0, 90)] μ (fun ν6 => (zCi X true l (d - 1) 0 0 y_Reader_readPart [(5, 0, 90), (0, 0, (dp : Int))] ν6 (fun v9 ν8 => (zCv X true l (d - 1) 0 0 y_Law_put [(3, 0, 90 + 2), (0, 0, (if v2 = 0 then (5 : Int) else 4)), (0, 0, 0)] ν8 (fun ν11 => zE X true l d 0 0 y_Reader_readTerm 8 [some (5, 0, 90), some (0, 0, (dp : Int)), some (0, 0, v9), some (0, 0, zw ((i : Int) + 1)), none] [] ν11 (zri Q))))))) := fun v2 hv2 => by
      rw [hv2, zw_of (by omega) (by omega)]
      refine k_adv (by omega) ht (fun ν1 t1 f1 g1 b1 => ?_)
      have hs1 : ν1 92 5 = s := by rw [f1 92 (by decide)]; exact hs
      rcases zbd_some e with ⟨q1, lv1, e1, e2⟩ | ⟨q1, lv1, w, e1, e2⟩
      · cases e2
        refine h1 (d - 1) dp _ _ s _ _ _ _ ν1 _ e1 hdp (by show 4 * (8 - dp) + 10 ≤ d - 1; omega) t1 (g1.trans h5) hlv hs1 (by omega) (fun v ν p => ?_)
        obtain ⟨rfl, pf, pt⟩ := p.1 rfl
        refine k_put0 (fun ν3 f3 k0 k1 => ?_)
        have done : Q 0 ν3 := hQ 0 ν3 (zPs.fail (b1.trans (pf.trans f3)) (pt.k90 k0 k1))
        exact s_Reader_readTerm_8 (d1 := d - 1) (by omega) ⟨fun _ => ⟨Or.inl rfl, done⟩, fun _ => ⟨fun _ => ⟨Or.inl rfl, done⟩, fun c => absurd rfl c⟩⟩
      · have far := zPp_far _ _ _ _ _ _ _ _ _ (by decide) nq.1 hlv e1
        refine h1 (d - 1) dp _ _ s _ _ _ _ ν1 _ e1 hdp (by show 4 * (8 - dp) + 10 ≤ d - 1; omega) t1 (g1.trans h5) hlv hs1 (by omega) (fun v ν p => ?_)
        obtain ⟨rfl, pf, pt, p5, pG, s1, D, ps, p1, p2, p3, p4, pT⟩ := p.2 w rfl
        refine k_put (s := s1) ps (by omega) (fun ν3 f3 k0 k1 k7 k8 ks => ?_)
        have m1 := Nat.le_max_left D0 (D + 1)
        have m2 := Nat.le_max_right D0 (D + 1)
        have mm : max D0 (D + 1) = D0 ∨ max D0 (D + 1) = D + 1 := by omega
        have fr : zFc μ ν3 s := (zFc.adv b1 f1).trans (pf.trans f3 (by omega)) (Int.le_refl _)
        refine h2 d dp (i + 1) q1 lv1 (s1 + 1) s0 q0 lv0 (max D0 (D + 1)) _ _ _ _ ν3 Q e2 hdp hd (pt.k90 k0 k1) (by rw [k0]; exact p5) far.2.2.2.1 ks (by omega) (by omega) hsq0 (by omega) (by omega) (by omega) ?_ (zGd.j2 (fun z => absurd z (by decide))) (fun v' ν' p' => hQ v' ν' ⟨fun c => ?_, fun w' c => ?_⟩)
        · intro F hF
          have hk : 2 ≤ ν3 97 s1 ∧ ν3 97 s1 < 9 := by rw [k7]; split <;> omega
          have z1 : zTl (ν3 97) (ν3 98) s0 s a D0 := hT.keep (fun j _ hj => fr.2 j hj)
          have z2 : zTl (ν3 97) (ν3 98) s s1 w D := pT.keep (fun j _ hj => f3.2 j hj)
          have := zS5.bin (z1 F hF) (z2 F hF) (by omega) (by omega) hk.1 hk.2 p3 (hG.b9 hF) (pG.b9 hF)
          rw [k7] at this
          exact this
        · obtain ⟨x1, x2, x3⟩ := p'.1 c
          exact ⟨x1, fr.1.trans x2, x3⟩
        · obtain ⟨x1, x2, x3, x4, x5, x6⟩ := p'.2 w' c
          exact ⟨x1, zFc.trans ⟨fr.1, fun j hj => fr.2 j (by omega)⟩ x2 (Int.le_refl _), x3, x4, x5, x6⟩
    exact k_isSign ht (fun g1 => step 1 (by rw [if_neg (by decide), if_pos g1.2])) (fun g1 => step 0 (by rw [if_pos rfl, if_neg (fun z => g1 ⟨g.1, z⟩)]))
  show zE X true l d 0 0 y_Reader_readTerm 8 _ _ _ _
  refine s_Reader_readTerm_8 (d1 := d - 1) (by omega) ⟨fun c => ⟨Or.inr rfl, stop (fun g => ?_)⟩, fun c => ⟨fun z => absurd z (by decide), fun _ => k_isSign ht (fun g => ⟨fun _ => go ⟨g.1, Or.inl g.2⟩, fun c => absurd c (by decide)⟩) (fun g => ⟨fun c => absurd rfl c, fun _ => k_isSign ht (fun g2 => ⟨fun c => absurd c (by decide), fun _ => go ⟨g2.1, Or.inr g2.2⟩⟩) (fun g2 => ⟨fun _ => ⟨Or.inr rfl, stop (fun z => ?_)⟩, fun c => absurd rfl c⟩)⟩)⟩⟩
  · have := (zsr_rng (T := T) (L := L) q).1.2 (by omega)
    have := g.1
    omega
  · rcases z.2 with y | y
    · exact g ⟨z.1, y⟩
    · exact g2 ⟨z.1, y⟩
theorem kt_4 (h1 : zKc X l T L n 1) (h2 : zKt X l T L n 4) : zKt X l T L (n + 1) 4 := by
  intro d dp i q lv s s0 q0 lv0 D0 q' lv' a r μ Q e hdp hd ht h5 hlv hs hs0 hsq hsq0 hi hD hDl hT hG hQ
  rw [zPp_4] at e
  have hd' : 4 * (8 - dp) + 12 ≤ d := hd
  have hqL := ht.2.2.2.2.2.1
  have hL4 := ht.2.2.2.2.2.2
  have nq := znx_bd (T := T) hqL
  have stop : ¬ (zsr T L q = 3 ∧ (T q = 43 ∨ T q = 45)) → Q 1 μ := fun c => by
    rw [if_neg c] at e
    cases e
    exact hQ 1 μ (zPs.good zFc.refl ht h5 hG hs hs0 hsq hD hDl hT)
  have go : zsr T L q = 3 ∧ (T q = 43 ∨ T q = 45) → zE X true l d 0 0 y_Reader_readSum 37 [some (5, 0, 90), some (0, 0, (dp : Int)), none, some (0, 0, (i : Int)), none] [] μ (zri Q) := fun g => by
    rw [if_pos g] at e
    have nq2 := nq.2.2 (by have := g.1; omega)
    refine s_Reader_readSum_37 (d1 := d - 1) (by omega) ?_
    have step : ∀ v2 : Int, (if v2 = 0 then (3 : Int) else 2) = (if T q = 43 then 2 else 3) → (zCv X true l (d - 1) 0 0 y_Reader_advance [(5, 0, 90)] μ (fun ν6 => (zCi X true l (d - 1) 0 0 y_Reader_readTerm [(5, 0, 90), (0, 0, (dp : Int))] ν6 (fun v9 ν8 => (zCv X true l (d - 1) 0 0 y_Law_put [(3, 0, 90 + 2), (0, 0, (if v2 = 0 then (3 : Int) else 2)), (0, 0, 0)] ν8 (fun ν11 => zE X true l d 0 0 y_Reader_readSum 8 [some (5, 0, 90), some (0, 0, (dp : Int)), some (0, 0, v9), some (0, 0, zw ((i : Int) + 1)), none] [] ν11 (zri Q))))))) := fun v2 hv2 => by
      rw [hv2, zw_of (by omega) (by omega)]
      refine k_adv (by omega) ht (fun ν1 t1 f1 g1 b1 => ?_)
      have hs1 : ν1 92 5 = s := by rw [f1 92 (by decide)]; exact hs
      rcases zbd_some e with ⟨q1, lv1, e1, e2⟩ | ⟨q1, lv1, w, e1, e2⟩
      · cases e2
        refine h1 (d - 1) dp _ _ s _ _ _ _ ν1 _ e1 hdp (by show 4 * (8 - dp) + 11 ≤ d - 1; omega) t1 (g1.trans h5) hlv hs1 (by omega) (fun v ν p => ?_)
        obtain ⟨rfl, pf, pt⟩ := p.1 rfl
        refine k_put0 (fun ν3 f3 k0 k1 => ?_)
        have done : Q 0 ν3 := hQ 0 ν3 (zPs.fail (b1.trans (pf.trans f3)) (pt.k90 k0 k1))
        exact s_Reader_readSum_8 (d1 := d - 1) (by omega) ⟨fun _ => ⟨Or.inl rfl, done⟩, fun _ => ⟨fun _ => ⟨Or.inl rfl, done⟩, fun c => absurd rfl c⟩⟩
      · have far := zPp_far _ _ _ _ _ _ _ _ _ (by decide) nq.1 hlv e1
        refine h1 (d - 1) dp _ _ s _ _ _ _ ν1 _ e1 hdp (by show 4 * (8 - dp) + 11 ≤ d - 1; omega) t1 (g1.trans h5) hlv hs1 (by omega) (fun v ν p => ?_)
        obtain ⟨rfl, pf, pt, p5, pG, s1, D, ps, p1, p2, p3, p4, pT⟩ := p.2 w rfl
        refine k_put (s := s1) ps (by omega) (fun ν3 f3 k0 k1 k7 k8 ks => ?_)
        have m1 := Nat.le_max_left D0 (D + 1)
        have m2 := Nat.le_max_right D0 (D + 1)
        have mm : max D0 (D + 1) = D0 ∨ max D0 (D + 1) = D + 1 := by omega
        have fr : zFc μ ν3 s := (zFc.adv b1 f1).trans (pf.trans f3 (by omega)) (Int.le_refl _)
        refine h2 d dp (i + 1) q1 lv1 (s1 + 1) s0 q0 lv0 (max D0 (D + 1)) _ _ _ _ ν3 Q e2 hdp hd (pt.k90 k0 k1) (by rw [k0]; exact p5) far.2.2.2.1 ks (by omega) (by omega) hsq0 (by omega) (by omega) (by omega) ?_ (zGd.j2 (fun z => absurd z (by decide))) (fun v' ν' p' => hQ v' ν' ⟨fun c => ?_, fun w' c => ?_⟩)
        · intro F hF
          have hk : 2 ≤ ν3 97 s1 ∧ ν3 97 s1 < 9 := by rw [k7]; split <;> omega
          have z1 : zTl (ν3 97) (ν3 98) s0 s a D0 := hT.keep (fun j _ hj => fr.2 j hj)
          have z2 : zTl (ν3 97) (ν3 98) s s1 w D := pT.keep (fun j _ hj => f3.2 j hj)
          have := zS5.bin (z1 F hF) (z2 F hF) (by omega) (by omega) hk.1 hk.2 p3 (hG.b9 hF) (pG.b9 hF)
          rw [k7] at this
          exact this
        · obtain ⟨x1, x2, x3⟩ := p'.1 c
          exact ⟨x1, fr.1.trans x2, x3⟩
        · obtain ⟨x1, x2, x3, x4, x5, x6⟩ := p'.2 w' c
          exact ⟨x1, zFc.trans ⟨fr.1, fun j hj => fr.2 j (by omega)⟩ x2 (Int.le_refl _), x3, x4, x5, x6⟩
    exact k_isSign ht (fun g1 => step 1 (by rw [if_neg (by decide), if_pos g1.2])) (fun g1 => step 0 (by rw [if_pos rfl, if_neg (fun z => g1 ⟨g.1, z⟩)]))
  show zE X true l d 0 0 y_Reader_readSum 8 _ _ _ _
  refine s_Reader_readSum_8 (d1 := d - 1) (by omega) ⟨fun c => ⟨Or.inr rfl, stop (fun g => ?_)⟩, fun c => ⟨fun z => absurd z (by decide), fun _ => k_isSign ht (fun g => ⟨fun _ => go ⟨g.1, Or.inl g.2⟩, fun c => absurd c (by decide)⟩) (fun g => ⟨fun c => absurd rfl c, fun _ => k_isSign ht (fun g2 => ⟨fun c => absurd c (by decide), fun _ => go ⟨g2.1, Or.inr g2.2⟩⟩) (fun g2 => ⟨fun _ => ⟨Or.inr rfl, stop (fun z => ?_)⟩, fun c => absurd rfl c⟩)⟩)⟩⟩
  · have := (zsr_rng (T := T) (L := L) q).1.2 (by omega)
    have := g.1
    omega
  · rcases z.2 with y | y
    · exact g ⟨z.1, y⟩
    · exact g2 ⟨z.1, y⟩
theorem kt_7 (h1 : zKc X l T L n 5) (h2 : zKt X l T L n 7) : zKt X l T L (n + 1) 7 := by
  intro d dp i q lv s s0 q0 lv0 D0 q' lv' a r μ Q e hdp hd ht h5 hlv hs hs0 hsq hsq0 hi hD hDl hT hG hQ
  rw [zPp_7] at e
  have hd' : 4 * (8 - dp) + 14 ≤ d := hd
  have hqL := ht.2.2.2.2.2.1
  have hL4 := ht.2.2.2.2.2.2
  have nq := znx_bd (T := T) hqL
  have stop : ¬ (zsr T L q = 1 ∧ zwo T L q = 1476) → Q 1 μ := fun c => by
    rw [if_neg c] at e
    cases e
    exact hQ 1 μ (zPs.good zFc.refl ht h5 hG hs hs0 hsq hD hDl hT)
  show zE X true l d 0 0 y_Reader_readBoth 8 _ _ _ _
  refine s_Reader_readBoth_8 (d1 := d - 1) (by omega) ⟨fun c => ⟨Or.inr rfl, stop (fun g => ?_)⟩, fun c => ⟨fun z => absurd z (by decide), fun _ => k_isWord (j := 4) (by omega) (by decide) ht (fun g => ⟨fun c => absurd c (by decide), fun _ => ?_⟩) (fun g => ⟨fun _ => ⟨Or.inr rfl, stop g⟩, fun c => absurd rfl c⟩)⟩⟩
  · have := (zsr_rng (T := T) (L := L) q).1.2 (by omega)
    have := g.1
    omega
  · have g' : zsr T L q = 1 ∧ zwo T L q = 1476 := g
    rw [if_pos g'] at e
    have nq2 := nq.2.2 (by have := g.1; omega)
    have hss : μ (90 + 2) 5 = (s : Int) := hs
    rw [zw_of (by omega) (by omega), hss]
    refine k_put (s := s) hs (by omega) (fun ν0 f0 k0 k1 k7 k8 ks => ?_)
    refine k_adv (by omega) (ht.k90 k0 k1) (fun ν1 t1 f1 g1 b1 => ?_)
    have hs1 : ν1 92 5 = ((s + 1 : Nat) : Int) := by rw [f1 92 (by decide)]; exact ks
    have h51 : ν1 90 5 = lv := by rw [g1, k0]; exact h5
    rcases zbd_some e with ⟨q1, lv1, e1, e2⟩ | ⟨q1, lv1, w, e1, e2⟩
    · cases e2
      refine h1 (d - 1) dp _ _ (s + 1) _ _ _ _ ν1 _ e1 hdp (by show 4 * (8 - dp) + 13 ≤ d - 1; omega) t1 h51 hlv hs1 (by omega) (fun v ν p => ?_)
      obtain ⟨rfl, pf, pt⟩ := p.1 rfl
      refine k_aim0 (fun ν3 f3 k0 k1 => ?_)
      have done : Q 0 ν3 := hQ 0 ν3 (zPs.fail (f0.1.trans (b1.trans (pf.trans f3))) (pt.k90 k0 k1))
      exact s_Reader_readBoth_8 (d1 := d - 1) (by omega) ⟨fun _ => ⟨Or.inl rfl, done⟩, fun _ => ⟨fun _ => ⟨Or.inl rfl, done⟩, fun c => absurd rfl c⟩⟩
    · have far := zPp_far _ _ _ _ _ _ _ _ _ (by decide) nq.1 hlv e1
      refine h1 (d - 1) dp _ _ (s + 1) _ _ _ _ ν1 _ e1 hdp (by show 4 * (8 - dp) + 13 ≤ d - 1; omega) t1 h51 hlv hs1 (by omega) (fun v ν p => ?_)
      obtain ⟨rfl, pf, pt, p5, pG, s1, D, ps, p1, p2, p3, p4, pT⟩ := p.2 w rfl
      refine k_aim (p := s) (s := s1) ps (by omega) ?_
      have m1 := Nat.le_max_left D0 D
      have m2 := Nat.le_max_right D0 D
      have mm : max D0 D = D0 ∨ max D0 D = D := by omega
      have fa : zFc ν (zup ν 98 s s1) s := ⟨⟨fun b _ _ _ h4 => zup_ne h4, fun j _ => by rw [zup_ne (by decide)], fun j _ => by rw [zup_ne (by decide)]⟩, fun j hj => ⟨by rw [zup_ne (by decide)], zup_miss (by omega)⟩⟩
      have pf' : zFc ν1 ν s := ⟨pf.1, fun j hj => pf.2 j (by omega)⟩
      have fr : zFc μ (zup ν 98 s s1) s := f0.trans ((zFc.adv b1 f1).trans (pf'.trans fa (Int.le_refl _)) (Int.le_refl _)) (Int.le_refl _)
      have e90 : (zup ν 98 s s1) 90 = ν 90 := zup_ne (by decide)
      have e91 : (zup ν 98 s s1) 91 = ν 91 := zup_ne (by decide)
      refine h2 d dp (i + 1) q1 lv1 s1 s0 q0 lv0 (max D0 D) _ _ _ _ (zup ν 98 s s1) Q e2 hdp hd (pt.k90 e90 e91) (by rw [e90]; exact p5) far.2.2.2.1 (by rw [zup_ne (by decide)]; exact ps) (by omega) (by omega) hsq0 (by omega) (by omega) (by omega) ?_ (hG.ao (pG.cv (by decide))) (fun v' ν' p' => hQ v' ν' ⟨fun c => ?_, fun w' c => ?_⟩)
      · intro F hF
        have z1 : zTl (zup ν 98 s s1 97) (zup ν 98 s s1 98) s0 s a D0 := hT.keep (fun j _ hj => fr.2 j hj)
        have z2 : zTl (zup ν 98 s s1 97) (zup ν 98 s s1 98) ((s + 1 : Nat) : Int) s1 w D := pT.keep (fun j h1 hj => ⟨by rw [zup_ne (by decide)], zup_miss (by omega)⟩)
        have kk : zup ν 98 s s1 97 s = 11 := by
          rw [zup_ne (by decide), (pf.2 s (by omega)).1, f1 97 (by decide)]
          exact k7
        have := zS5.aor (z1 F hF) (z2 F hF) (by omega) (by omega) (by rw [kk]; decide) zup_hit hD
        rw [kk] at this
        exact this
      · obtain ⟨x1, x2, x3⟩ := p'.1 c
        exact ⟨x1, fr.1.trans x2, x3⟩
      · obtain ⟨x1, x2, x3, x4, x5, x6⟩ := p'.2 w' c
        exact ⟨x1, zFc.trans ⟨fr.1, fun j hj => fr.2 j (by omega)⟩ x2 (Int.le_refl _), x3, x4, x5, x6⟩
theorem kt_9 (h1 : zKc X l T L n 6) (h2 : zKt X l T L n 9) : zKt X l T L (n + 1) 9 := by
  intro d dp i q lv s s0 q0 lv0 D0 q' lv' a r μ Q e hdp hd ht h5 hlv hs hs0 hsq hsq0 hi hD hDl hT hG hQ
  rw [zPp_9] at e
  have hd' : 4 * (8 - dp) + 15 ≤ d := hd
  have hqL := ht.2.2.2.2.2.1
  have hL4 := ht.2.2.2.2.2.2
  have nq := znx_bd (T := T) hqL
  have stop : ¬ (zsr T L q = 1 ∧ zwo T L q = 498) → Q 1 μ := fun c => by
    rw [if_neg c] at e
    cases e
    exact hQ 1 μ (zPs.good zFc.refl ht h5 hG hs hs0 hsq hD hDl hT)
  show zE X true l d 0 0 y_Reader_readTest 8 _ _ _ _
  refine s_Reader_readTest_8 (d1 := d - 1) (by omega) ⟨fun c => ⟨Or.inr rfl, stop (fun g => ?_)⟩, fun c => ⟨fun z => absurd z (by decide), fun _ => k_isWord (j := 3) (by omega) (by decide) ht (fun g => ⟨fun c => absurd c (by decide), fun _ => ?_⟩) (fun g => ⟨fun _ => ⟨Or.inr rfl, stop g⟩, fun c => absurd rfl c⟩)⟩⟩
  · have := (zsr_rng (T := T) (L := L) q).1.2 (by omega)
    have := g.1
    omega
  · have g' : zsr T L q = 1 ∧ zwo T L q = 498 := g
    rw [if_pos g'] at e
    have nq2 := nq.2.2 (by have := g.1; omega)
    have hss : μ (90 + 2) 5 = (s : Int) := hs
    rw [zw_of (by omega) (by omega), hss]
    refine k_put (s := s) hs (by omega) (fun ν0 f0 k0 k1 k7 k8 ks => ?_)
    refine k_adv (by omega) (ht.k90 k0 k1) (fun ν1 t1 f1 g1 b1 => ?_)
    have hs1 : ν1 92 5 = ((s + 1 : Nat) : Int) := by rw [f1 92 (by decide)]; exact ks
    have h51 : ν1 90 5 = lv := by rw [g1, k0]; exact h5
    rcases zbd_some e with ⟨q1, lv1, e1, e2⟩ | ⟨q1, lv1, w, e1, e2⟩
    · cases e2
      refine h1 (d - 1) dp _ _ (s + 1) _ _ _ _ ν1 _ e1 hdp (by show 4 * (8 - dp) + 14 ≤ d - 1; omega) t1 h51 hlv hs1 (by omega) (fun v ν p => ?_)
      obtain ⟨rfl, pf, pt⟩ := p.1 rfl
      refine k_aim0 (fun ν3 f3 k0 k1 => ?_)
      have done : Q 0 ν3 := hQ 0 ν3 (zPs.fail (f0.1.trans (b1.trans (pf.trans f3))) (pt.k90 k0 k1))
      exact s_Reader_readTest_8 (d1 := d - 1) (by omega) ⟨fun _ => ⟨Or.inl rfl, done⟩, fun _ => ⟨fun _ => ⟨Or.inl rfl, done⟩, fun c => absurd rfl c⟩⟩
    · have far := zPp_far _ _ _ _ _ _ _ _ _ (by decide) nq.1 hlv e1
      refine h1 (d - 1) dp _ _ (s + 1) _ _ _ _ ν1 _ e1 hdp (by show 4 * (8 - dp) + 14 ≤ d - 1; omega) t1 h51 hlv hs1 (by omega) (fun v ν p => ?_)
      obtain ⟨rfl, pf, pt, p5, pG, s1, D, ps, p1, p2, p3, p4, pT⟩ := p.2 w rfl
      refine k_aim (p := s) (s := s1) ps (by omega) ?_
      have m1 := Nat.le_max_left D0 D
      have m2 := Nat.le_max_right D0 D
      have mm : max D0 D = D0 ∨ max D0 D = D := by omega
      have fa : zFc ν (zup ν 98 s s1) s := ⟨⟨fun b _ _ _ h4 => zup_ne h4, fun j _ => by rw [zup_ne (by decide)], fun j _ => by rw [zup_ne (by decide)]⟩, fun j hj => ⟨by rw [zup_ne (by decide)], zup_miss (by omega)⟩⟩
      have pf' : zFc ν1 ν s := ⟨pf.1, fun j hj => pf.2 j (by omega)⟩
      have fr : zFc μ (zup ν 98 s s1) s := f0.trans ((zFc.adv b1 f1).trans (pf'.trans fa (Int.le_refl _)) (Int.le_refl _)) (Int.le_refl _)
      have e90 : (zup ν 98 s s1) 90 = ν 90 := zup_ne (by decide)
      have e91 : (zup ν 98 s s1) 91 = ν 91 := zup_ne (by decide)
      refine h2 d dp (i + 1) q1 lv1 s1 s0 q0 lv0 (max D0 D) _ _ _ _ (zup ν 98 s s1) Q e2 hdp hd (pt.k90 e90 e91) (by rw [e90]; exact p5) far.2.2.2.1 (by rw [zup_ne (by decide)]; exact ps) (by omega) (by omega) hsq0 (by omega) (by omega) (by omega) ?_ (hG.ao (pG.cv (by decide))) (fun v' ν' p' => hQ v' ν' ⟨fun c => ?_, fun w' c => ?_⟩)
      · intro F hF
        have z1 : zTl (zup ν 98 s s1 97) (zup ν 98 s s1 98) s0 s a D0 := hT.keep (fun j _ hj => fr.2 j hj)
        have z2 : zTl (zup ν 98 s s1 97) (zup ν 98 s s1 98) ((s + 1 : Nat) : Int) s1 w D := pT.keep (fun j h1 hj => ⟨by rw [zup_ne (by decide)], zup_miss (by omega)⟩)
        have kk : zup ν 98 s s1 97 s = 10 := by
          rw [zup_ne (by decide), (pf.2 s (by omega)).1, f1 97 (by decide)]
          exact k7
        have := zS5.aor (z1 F hF) (z2 F hF) (by omega) (by omega) (by rw [kk]; decide) zup_hit hD
        rw [kk] at this
        exact this
      · obtain ⟨x1, x2, x3⟩ := p'.1 c
        exact ⟨x1, fr.1.trans x2, x3⟩
      · obtain ⟨x1, x2, x3, x4, x5, x6⟩ := p'.2 w' c
        exact ⟨x1, zFc.trans ⟨fr.1, fun j hj => fr.2 j (by omega)⟩ x2 (Int.le_refl _), x3, x4, x5, x6⟩
theorem kc_1 (h1 : zKc X l T L n 0) (h2 : zKt X l T L n 2) : zKc X l T L (n + 1) 1 := by
  intro d dp q lv s q' lv' a r μ Q e hdp hd ht h5 hlv hs hsq hQ
  rw [zPp_1] at e
  have hd' : 4 * (8 - dp) + 11 ≤ d := hd
  show zCi X true l d 0 0 y_Reader_readTerm _ μ Q
  refine c_Reader_readTerm (d1 := d - 1) (by omega) ?_
  rcases zbd_some e with ⟨q1, lv1, e1, e2⟩ | ⟨q1, lv1, w, e1, e2⟩
  · cases e2
    refine h1 (d - 1) dp _ _ s _ _ _ _ μ _ e1 hdp (by show 4 * (8 - dp) + 10 ≤ d - 1; omega) ht h5 hlv hs hsq (fun v ν p => ?_)
    obtain ⟨rfl, pf, pt⟩ := p.1 rfl
    exact s_Reader_readTerm_8 (d1 := d - 1) (by omega) ⟨fun c => absurd c (by omega), fun _ => ⟨fun _ => ⟨Or.inl rfl, hQ 0 ν (zPs.fail pf pt)⟩, fun c => absurd rfl c⟩⟩
  · have far := zPp_far _ _ _ _ _ _ _ _ _ (by decide) ht.2.2.2.2.2.1 hlv e1
    refine h1 (d - 1) dp _ _ s _ _ _ _ μ _ e1 hdp (by show 4 * (8 - dp) + 10 ≤ d - 1; omega) ht h5 hlv hs hsq (fun v ν p => ?_)
    obtain ⟨rfl, pf, pt, p5, pG, s1, D, ps, p1, p2, p3, p4, pT⟩ := p.2 w rfl
    refine h2 d dp 0 q1 lv1 s1 s q lv D _ _ _ _ ν Q e2 hdp hd pt p5 far.2.2.2.1 ps p1 p2 hsq (by omega) p3 p4 pT (pG.cv (by decide)) (fun v' ν' p' => hQ v' ν' ⟨fun c => ?_, fun w' c => ?_⟩)
    · obtain ⟨x1, x2, x3⟩ := p'.1 c
      exact ⟨x1, pf.1.trans x2, x3⟩
    · obtain ⟨x1, x2, x3, x4, x5, x6⟩ := p'.2 w' c
      exact ⟨x1, pf.trans x2 (Int.le_refl _), x3, x4, x5.cv (by decide), x6⟩
theorem kc_3 (h1 : zKc X l T L n 1) (h2 : zKt X l T L n 4) : zKc X l T L (n + 1) 3 := by
  intro d dp q lv s q' lv' a r μ Q e hdp hd ht h5 hlv hs hsq hQ
  rw [zPp_3] at e
  have hd' : 4 * (8 - dp) + 12 ≤ d := hd
  show zCi X true l d 0 0 y_Reader_readSum _ μ Q
  refine c_Reader_readSum (d1 := d - 1) (by omega) ?_
  rcases zbd_some e with ⟨q1, lv1, e1, e2⟩ | ⟨q1, lv1, w, e1, e2⟩
  · cases e2
    refine h1 (d - 1) dp _ _ s _ _ _ _ μ _ e1 hdp (by show 4 * (8 - dp) + 11 ≤ d - 1; omega) ht h5 hlv hs hsq (fun v ν p => ?_)
    obtain ⟨rfl, pf, pt⟩ := p.1 rfl
    exact s_Reader_readSum_8 (d1 := d - 1) (by omega) ⟨fun c => absurd c (by omega), fun _ => ⟨fun _ => ⟨Or.inl rfl, hQ 0 ν (zPs.fail pf pt)⟩, fun c => absurd rfl c⟩⟩
  · have far := zPp_far _ _ _ _ _ _ _ _ _ (by decide) ht.2.2.2.2.2.1 hlv e1
    refine h1 (d - 1) dp _ _ s _ _ _ _ μ _ e1 hdp (by show 4 * (8 - dp) + 11 ≤ d - 1; omega) ht h5 hlv hs hsq (fun v ν p => ?_)
    obtain ⟨rfl, pf, pt, p5, pG, s1, D, ps, p1, p2, p3, p4, pT⟩ := p.2 w rfl
    refine h2 d dp 0 q1 lv1 s1 s q lv D _ _ _ _ ν Q e2 hdp hd pt p5 far.2.2.2.1 ps p1 p2 hsq (by omega) p3 p4 pT (pG.cv (by decide)) (fun v' ν' p' => hQ v' ν' ⟨fun c => ?_, fun w' c => ?_⟩)
    · obtain ⟨x1, x2, x3⟩ := p'.1 c
      exact ⟨x1, pf.1.trans x2, x3⟩
    · obtain ⟨x1, x2, x3, x4, x5, x6⟩ := p'.2 w' c
      exact ⟨x1, pf.trans x2 (Int.le_refl _), x3, x4, x5.cv (by decide), x6⟩
theorem kc_6 (h1 : zKc X l T L n 5) (h2 : zKt X l T L n 7) : zKc X l T L (n + 1) 6 := by
  intro d dp q lv s q' lv' a r μ Q e hdp hd ht h5 hlv hs hsq hQ
  rw [zPp_6] at e
  have hd' : 4 * (8 - dp) + 14 ≤ d := hd
  show zCi X true l d 0 0 y_Reader_readBoth _ μ Q
  refine c_Reader_readBoth (d1 := d - 1) (by omega) ?_
  rcases zbd_some e with ⟨q1, lv1, e1, e2⟩ | ⟨q1, lv1, w, e1, e2⟩
  · cases e2
    refine h1 (d - 1) dp _ _ s _ _ _ _ μ _ e1 hdp (by show 4 * (8 - dp) + 13 ≤ d - 1; omega) ht h5 hlv hs hsq (fun v ν p => ?_)
    obtain ⟨rfl, pf, pt⟩ := p.1 rfl
    exact s_Reader_readBoth_8 (d1 := d - 1) (by omega) ⟨fun c => absurd c (by omega), fun _ => ⟨fun _ => ⟨Or.inl rfl, hQ 0 ν (zPs.fail pf pt)⟩, fun c => absurd rfl c⟩⟩
  · have far := zPp_far _ _ _ _ _ _ _ _ _ (by decide) ht.2.2.2.2.2.1 hlv e1
    refine h1 (d - 1) dp _ _ s _ _ _ _ μ _ e1 hdp (by show 4 * (8 - dp) + 13 ≤ d - 1; omega) ht h5 hlv hs hsq (fun v ν p => ?_)
    obtain ⟨rfl, pf, pt, p5, pG, s1, D, ps, p1, p2, p3, p4, pT⟩ := p.2 w rfl
    refine h2 d dp 0 q1 lv1 s1 s q lv D _ _ _ _ ν Q e2 hdp hd pt p5 far.2.2.2.1 ps p1 p2 hsq (by omega) p3 p4 pT (pG.cv (by decide)) (fun v' ν' p' => hQ v' ν' ⟨fun c => ?_, fun w' c => ?_⟩)
    · obtain ⟨x1, x2, x3⟩ := p'.1 c
      exact ⟨x1, pf.1.trans x2, x3⟩
    · obtain ⟨x1, x2, x3, x4, x5, x6⟩ := p'.2 w' c
      exact ⟨x1, pf.trans x2 (Int.le_refl _), x3, x4, x5.cv (by decide), x6⟩
theorem kc_8 (h1 : zKc X l T L n 6) (h2 : zKt X l T L n 9) : zKc X l T L (n + 1) 8 := by
  intro d dp q lv s q' lv' a r μ Q e hdp hd ht h5 hlv hs hsq hQ
  rw [zPp_8] at e
  have hd' : 4 * (8 - dp) + 15 ≤ d := hd
  show zCi X true l d 0 0 y_Reader_readTest _ μ Q
  refine c_Reader_readTest (d1 := d - 1) (by omega) ?_
  rcases zbd_some e with ⟨q1, lv1, e1, e2⟩ | ⟨q1, lv1, w, e1, e2⟩
  · cases e2
    refine h1 (d - 1) dp _ _ s _ _ _ _ μ _ e1 hdp (by show 4 * (8 - dp) + 14 ≤ d - 1; omega) ht h5 hlv hs hsq (fun v ν p => ?_)
    obtain ⟨rfl, pf, pt⟩ := p.1 rfl
    exact s_Reader_readTest_8 (d1 := d - 1) (by omega) ⟨fun c => absurd c (by omega), fun _ => ⟨fun _ => ⟨Or.inl rfl, hQ 0 ν (zPs.fail pf pt)⟩, fun c => absurd rfl c⟩⟩
  · have far := zPp_far _ _ _ _ _ _ _ _ _ (by decide) ht.2.2.2.2.2.1 hlv e1
    refine h1 (d - 1) dp _ _ s _ _ _ _ μ _ e1 hdp (by show 4 * (8 - dp) + 14 ≤ d - 1; omega) ht h5 hlv hs hsq (fun v ν p => ?_)
    obtain ⟨rfl, pf, pt, p5, pG, s1, D, ps, p1, p2, p3, p4, pT⟩ := p.2 w rfl
    refine h2 d dp 0 q1 lv1 s1 s q lv D _ _ _ _ ν Q e2 hdp hd pt p5 far.2.2.2.1 ps p1 p2 hsq (by omega) p3 p4 pT (pG.cv (by decide)) (fun v' ν' p' => hQ v' ν' ⟨fun c => ?_, fun w' c => ?_⟩)
    · obtain ⟨x1, x2, x3⟩ := p'.1 c
      exact ⟨x1, pf.1.trans x2, x3⟩
    · obtain ⟨x1, x2, x3, x4, x5, x6⟩ := p'.2 w' c
      exact ⟨x1, pf.trans x2 (Int.le_refl _), x3, x4, x5.cv (by decide), x6⟩
theorem kl_5 (h3 : zKc X l T L n 3) (h8 : zKc X l T L n 8) (hl : zKl X l T L n) : zKl X l T L (n + 1) := by
  intro d dp i x q0 q lv s q' lv' a r μ Q e hdp hd ht h5 hlv hs hx hxq hsq0 hi hQ
  rw [zPp_5] at e
  have hd' : 4 * (8 - dp) + 13 ≤ d := hd
  have hqL := ht.2.2.2.2.2.1
  have hL4 := ht.2.2.2.2.2.2
  have nq := znx_bd (T := T) hqL
  have hfail : ∀ ν, r = none → zFb μ ν → zTc ν T L q' → Q 0 ν := fun ν hr f t => hQ 0 ν ⟨fun _ => ⟨rfl, f, t⟩, fun w c => by rw [hr] at c; split at c <;> cases c⟩
  have fin : ∀ (ν : zM) (w : zSem) (s1 D : Nat), r = some w → zFc μ ν s → zTc ν T L q' → ν 90 5 = lv' → zGd 5 w → ν 92 5 = s1 → s < s1 → s1 + q ≤ s + q' → 1 ≤ D → D + lv ≤ lv' → zTl (ν 97) (ν 98) s s1 w D → (((x : Int) = 0 → zri Q (some (0, 0, 1)) ν) ∧ (¬ (x : Int) = 0 → (zCv X true l (d - 1) 0 0 y_Law_put [(3, 0, 90 + 2), (0, 0, 9), (0, 0, 0)] ν (fun ν27 => zri Q (some (0, 0, 1)) ν27)))) := fun ν w s1 D hr f t n5 hG ns h1 h2 h3 h4 hT => by
    refine ⟨fun c => hQ 1 ν ?_, fun c => ?_⟩
    · rw [if_neg (by omega), hr]
      exact zPs.good f t n5 hG ns h1 (by omega) h3 h4 hT
    · have hx1 : x = 1 := by omega
      have tq := t.2.2.2.2.2.1
      refine k_put (s := s1) ns (by omega) (fun ν3 f3 k0 k1 k7 k8 ks => hQ 1 ν3 ?_)
      rw [if_pos hx1, hr]
      refine zPs.good (s' := s1 + 1) (D := D) (f.trans f3 (by omega)) (t.k90 k0 k1) (by rw [k0]; exact n5) hG.no ks (by omega) (by omega) h3 h4 (fun F hF => ?_)
      exact zS5.neg ((hT.keep (fun j _ hj => f3.2 j hj)) F hF) (by omega) k7 h3 (hG.b9 hF)
  have at40 : ¬ (zsr T L q = 1 ∧ zwo T L q = 14836) → zE X true l d 0 0 y_Reader_readPlain 40 [some (5, 0, 90), some (0, 0, (dp : Int)), some (0, 0, (x : Int)), none] [] μ (zri Q) := fun g0 => by
    rw [if_neg g0] at e
    refine s_Reader_readPlain_40 (d1 := d - 1) (by omega) (k_isSign ht (fun g => ⟨fun c => absurd c (by decide), fun _ => ?_⟩) (fun g => ⟨fun _ => ?_, fun c => absurd rfl c⟩))
    · unfold zsg at g
      rw [if_pos g] at e
      refine c_Reader_readBracketedTest (d1 := d - 2) (by omega) ⟨fun c8 => ?_, fun c8 => ?_⟩
      · rw [if_pos (show dp < 8 by omega)] at e
        refine k_adv (by omega) ht (fun ν1 t1 f1 g1 b1 => ?_)
        rw [zw_of (by omega) (by omega)]
        have nq2 := nq.2.2 (by have := g.1; omega)
        have hs1 : ν1 92 5 = s := by rw [f1 92 (by decide)]; exact hs
        rcases zbd_some e with ⟨q1, lv1, e1, e2⟩ | ⟨q1, lv1, w, e1, e2⟩
        · cases e2
          refine h8 (d - 2) (dp + 1) _ _ s _ _ _ _ ν1 _ e1 (by omega) (by show 4 * (8 - (dp + 1)) + 15 ≤ d - 2; omega) t1 (g1.trans h5) hlv hs1 (by omega) (fun v ν p => ?_)
          obtain ⟨rfl, pf, pt⟩ := p.1 rfl
          exact ⟨fun _ => ⟨fun c => absurd rfl c, fun _ => hfail ν rfl (b1.trans pf) pt⟩, fun c => absurd rfl c⟩
        · refine h8 (d - 2) (dp + 1) _ _ s _ _ _ _ ν1 _ e1 (by omega) (by show 4 * (8 - (dp + 1)) + 15 ≤ d - 2; omega) t1 (g1.trans h5) hlv hs1 (by omega) (fun v ν p => ?_)
          obtain ⟨rfl, pf, pt, p5, pG, s1, D, ps, p1, p2, p3, p4, pT⟩ := p.2 w rfl
          refine ⟨fun c => absurd c (by decide), fun _ => k_isSign pt (fun g2 => ⟨fun _ => ?_, fun c => absurd c (by decide)⟩) (fun g2 => ⟨fun c => absurd rfl c, fun _ => ?_⟩)⟩
          · unfold zsg at g2
            rw [if_pos g2] at e2
            cases e2
            have nq3 := (znx_bd (T := T) pt.2.2.2.2.2.1).2.2 (by have := g2.1; omega)
            refine k_adv (by omega) pt (fun ν3 t3 f3 g3 b3 => ⟨fun _ => fin ν3 w s1 D rfl ((zFc.adv b1 f1).trans (pf.trans (zFc.adv b3 f3) (Int.le_refl _)) (Int.le_refl _)) t3 (g3.trans p5) (pG.cv (by decide)) (by rw [f3 92 (by decide)]; exact ps) p1 (by omega) p3 p4 (by rw [f3 97 (by decide), f3 98 (by decide)]; exact pT), fun c => absurd c (by decide)⟩)
          · unfold zsg at g2
            rw [if_neg g2] at e2
            cases e2
            exact ⟨fun c => absurd rfl c, fun _ => hfail ν rfl (b1.trans pf.1) pt⟩
      · rw [if_neg (show ¬ dp < 8 by omega)] at e
        cases e
        exact ⟨fun c => absurd rfl c, fun _ => hfail μ rfl zFb.refl ht⟩
    · unfold zsg at g
      rw [if_neg g] at e
      rcases zbd_some e with ⟨q1, lv1, e1, e2⟩ | ⟨q1, lv1, w, e1, e2⟩
      · cases e2
        refine h3 (d - 1) dp _ _ s _ _ _ _ μ _ e1 hdp (by show 4 * (8 - dp) + 12 ≤ d - 1; omega) ht h5 hlv hs (by omega) (fun v ν p => ?_)
        obtain ⟨rfl, pf, pt⟩ := p.1 rfl
        exact ⟨fun c => absurd rfl c, fun _ => hfail ν rfl pf pt⟩
      · have far := zPp_far _ _ _ _ _ _ _ _ _ (by decide) hqL hlv e1
        refine h3 (d - 1) dp _ _ s _ _ _ _ μ _ e1 hdp (by show 4 * (8 - dp) + 12 ≤ d - 1; omega) ht h5 hlv hs (by omega) (fun v ν p => ?_)
        obtain ⟨rfl, pf, pt, p5, pG, s1, D, ps, p1, p2, p3, p4, pT⟩ := p.2 w rfl
        have at112 : ∀ κ : Int, (zsr T L q1 = 3 ∧ (T q1 = 60 ∨ T q1 = 62 ∨ T q1 = 61)) → κ = (if T q1 = 60 then 6 else if T q1 = 62 then 7 else 8) → zE X true l d 0 0 y_Reader_readPlain 112 [some (5, 0, 90), some (0, 0, (dp : Int)), some (0, 0, (x : Int)), none] [(0, 0, κ)] ν (zri Q) := fun κ g1 hκ => by
          have hκ2 : 6 ≤ κ ∧ κ < 9 := by rw [hκ]; split; omega; split <;> omega
          rw [if_pos g1, ← hκ] at e2
          refine s_Reader_readPlain_112 (d1 := d - 1) (by omega) ⟨fun _ => ?_, fun c => by omega⟩
          have nq1 := znx_bd (T := T) pt.2.2.2.2.2.1
          have nq3 := nq1.2.2 (by have := g1.1; omega)
          refine k_adv (by omega) pt (fun ν1 t1 f1 g1 b1 => ?_)
          have hs1 : ν1 92 5 = s1 := by rw [f1 92 (by decide)]; exact ps
          rcases zbd_some e2 with ⟨q2, lv2, e3, e4⟩ | ⟨q2, lv2, w2, e3, e4⟩
          · cases e4
            refine h3 (d - 1) dp _ _ s1 _ _ _ _ ν1 _ e3 hdp (by show 4 * (8 - dp) + 12 ≤ d - 1; omega) t1 (g1.trans p5) far.2.2.2.1 hs1 (by omega) (fun v ν p => ?_)
            obtain ⟨rfl, rf, rt⟩ := p.1 rfl
            exact ⟨fun c => absurd rfl c, fun _ => hfail ν rfl (pf.1.trans (b1.trans rf)) rt⟩
          · cases e4
            refine h3 (d - 1) dp _ _ s1 _ _ _ _ ν1 _ e3 hdp (by show 4 * (8 - dp) + 12 ≤ d - 1; omega) t1 (g1.trans p5) far.2.2.2.1 hs1 (by omega) (fun v ν2 p => ?_)
            obtain ⟨rfl, rf, rt, r5, rG, s2, D2, rs, r1, r2, r3, r4, rT⟩ := p.2 w2 rfl
            have rq := rt.2.2.2.2.2.1
            refine ⟨fun _ => ?_, fun c => absurd c (by decide)⟩
            refine k_put (s := s2) rs (by omega) (fun ν3 f3 k0 k1 k7 k8 ks => ?_)
            have mm : max D (D2 + 1) = D ∨ max D (D2 + 1) = D2 + 1 := by omega
            have fa : zFc ν ν2 s1 := (zFc.adv b1 f1).trans rf (Int.le_refl _)
            refine fin ν3 _ (s2 + 1) (max D (D2 + 1)) rfl (pf.trans (fa.trans f3 (by omega)) (by omega)) (rt.k90 k0 k1) (by rw [k0]; exact r5) (zGd.j2 (fun _ => by omega)) ks (by omega) (by omega) (by omega) (by omega) (fun F hF => ?_)
            have z1 : zTl (ν3 97) (ν3 98) s s1 w D := pT.keep (fun j _ hj => ⟨((f3.2 j (by omega)).1).trans (fa.2 j hj).1, ((f3.2 j (by omega)).2).trans (fa.2 j hj).2⟩)
            have z2 : zTl (ν3 97) (ν3 98) s1 s2 w2 D2 := rT.keep (fun j _ hj => f3.2 j hj)
            have := zS5.bin (z1 F hF) (z2 F hF) (by omega) (by omega) (by rw [k7]; omega) (by rw [k7]; omega) r3 (pG.b9 hF) (rG.b9 hF)
            rw [k7] at this
            exact this
        refine ⟨fun _ => ?_, fun c => absurd c (by decide)⟩
        refine k_isSign pt (fun y1 => ⟨fun c => absurd c (by decide), fun _ => at112 6 ⟨y1.1, Or.inl y1.2⟩ (by rw [if_pos y1.2])⟩) (fun y1 => ⟨fun _ => ?_, fun c => absurd rfl c⟩)
        refine k_isSign pt (fun y2 => ⟨fun c => absurd c (by decide), fun _ => at112 7 ⟨y2.1, Or.inr (Or.inl y2.2)⟩ (by rw [if_neg (fun z => y1 ⟨y2.1, z⟩), if_pos y2.2])⟩) (fun y2 => ⟨fun _ => ?_, fun c => absurd rfl c⟩)
        refine k_isSign pt (fun y3 => ?_) (fun y3 => ?_)
        · rw [if_neg (by decide)]
          exact at112 8 ⟨y3.1, Or.inr (Or.inr y3.2)⟩ (by rw [if_neg (fun z => y1 ⟨y3.1, z⟩), if_neg (fun z => y2 ⟨y3.1, z⟩)])
        · rw [if_pos rfl]
          rw [if_neg (fun z => by rcases z.2 with y | y | y; exact y1 ⟨z.1, y⟩; exact y2 ⟨z.1, y⟩; exact y3 ⟨z.1, y⟩)] at e2
          cases e2
          exact s_Reader_readPlain_112 (d1 := d - 1) (by omega) ⟨fun c => absurd rfl c, fun _ => hfail ν rfl pf.1 pt⟩
  refine s_Reader_readPlain_4 (d1 := d - 1) (by omega) ⟨fun c => at40 (fun g => ?_), fun c => k_isWord (j := 5) (by omega) (by decide) ht (fun g => ⟨fun c => absurd c (by decide), fun _ => ?_⟩) (fun g => ⟨fun _ => at40 g, fun c => absurd rfl c⟩)⟩
  · have := (zsr_rng (T := T) (L := L) q).1.2 (by omega)
    have := g.1
    omega
  · have g' : zsr T L q = 1 ∧ zwo T L q = 14836 := g
    rw [if_pos g'] at e
    have nq2 := nq.2.2 (by have := g.1; omega)
    refine k_adv (by omega) ht (fun ν1 t1 f1 g1 b1 => ?_)
    have hs1 : ν1 92 5 = s := by rw [f1 92 (by decide)]; exact hs
    have hxx : (if ¬ (x : Int) = 0 then (0 : Int) else 1) = ((1 - x : Nat) : Int) := by split <;> omega
    rw [hxx, zw_of (by omega) (by omega)]
    rcases zbd_some e with ⟨q1, lv1, e1, e2⟩ | ⟨q1, lv1, w, e1, e2⟩
    · cases e2
      refine hl d dp (i + 1) (1 - x) q0 _ lv s _ _ _ _ ν1 Q e1 hdp hd t1 (g1.trans h5) hlv hs1 (by omega) (by omega) hsq0 (by omega) (fun v ν p => ?_)
      have p1 := p.1 (by split <;> rfl)
      obtain ⟨rfl, pf, pt⟩ := p1
      exact hfail ν rfl (b1.trans pf) pt
    · cases e2
      refine hl d dp (i + 1) (1 - x) q0 _ lv s _ _ _ _ ν1 Q e1 hdp hd t1 (g1.trans h5) hlv hs1 (by omega) (by omega) hsq0 (by omega) (fun v ν p => hQ v ν ?_)
      have er : (if 1 - x = 1 then (some w).map zno else some w) = (if x = 1 then (some (zno w)).map zno else some (zno w)) := by
        by_cases hx1 : x = 1
        · rw [if_neg (by omega), if_pos hx1]
          show some w = some (zno (zno w))
          rw [zno_zno]
        · rw [if_pos (by omega), if_neg hx1]; rfl
      rw [er] at p
      refine ⟨fun c => ?_, fun w' c => ?_⟩
      · obtain ⟨x1, x2, x3⟩ := p.1 c
        exact ⟨x1, b1.trans x2, x3⟩
      · obtain ⟨x1, x2, x3⟩ := p.2 w' c
        exact ⟨x1, (zFc.adv b1 f1).trans x2 (Int.le_refl _), x3⟩
theorem kc_5 (hl : zKl X l T L n) : zKc X l T L n 5 := by
  intro d dp q lv s q' lv' a r μ Q e hdp hd ht h5 hlv hs hsq hQ
  show zCi X true l d 0 0 y_Reader_readPlain _ μ Q
  refine c_Reader_readPlain ?_
  exact hl d dp 0 0 q q lv s q' lv' a r μ Q e hdp hd ht h5 hlv hs (by omega) (by omega) hsq (by omega) (fun v ν p => hQ v ν (by rw [if_neg (by decide)] at p; exact p))
/-- all modes -/
theorem k_cls : ∀ n : Nat, zKc X l T L n 0 ∧ zKc X l T L n 1 ∧ zKc X l T L n 3 ∧ zKc X l T L n 5 ∧ zKc X l T L n 6 ∧ zKc X l T L n 8 ∧ zKt X l T L n 2 ∧ zKt X l T L n 4 ∧ zKt X l T L n 7 ∧ zKt X l T L n 9 ∧ zKl X l T L n
  | 0 => by
    exact ⟨(by intro d dp q lv s q' lv' a r μ Q e; cases e), (by intro d dp q lv s q' lv' a r μ Q e; cases e), (by intro d dp q lv s q' lv' a r μ Q e; cases e), (by intro d dp q lv s q' lv' a r μ Q e; cases e), (by intro d dp q lv s q' lv' a r μ Q e; cases e), (by intro d dp q lv s q' lv' a r μ Q e; cases e), (by intro d dp i q lv s s0 q0 lv0 D0 q' lv' a r μ Q e; cases e), (by intro d dp i q lv s s0 q0 lv0 D0 q' lv' a r μ Q e; cases e), (by intro d dp i q lv s s0 q0 lv0 D0 q' lv' a r μ Q e; cases e), (by intro d dp i q lv s s0 q0 lv0 D0 q' lv' a r μ Q e; cases e), (by intro d dp i x q0 q lv s q' lv' a r μ Q e; cases e)⟩
  | n + 1 => by
    obtain ⟨a0, a1, a3, a5, a6, a8, a2, a4, a7, a9, al⟩ := k_cls n
    have l5 := kl_5 a3 a8 al
    exact ⟨kc_0 a3, kc_1 a0 a2, kc_3 a1 a4, kc_5 l5, kc_6 a5 a7, kc_8 a6 a9, kt_2 a0 a2, kt_4 a1 a4, kt_7 a5 a7, kt_9 a6 a9, l5⟩
end

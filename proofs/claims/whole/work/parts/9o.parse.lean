/-! law: pieces of code put together; the grammar, said once -/
section
variable {k ab F : Int → Int}
theorem zCl5.mono {i i' j j' : Int} {B : Prop} {P : Int → Int → (Int → Int) → Prop} (h : zCl5 k ab F i j B P) (h1 : i ≤ i') (h2 : j' ≤ j) : zCl5 k ab F i' j' B P := by
  intro s t σ s0 s1 t0 t1
  obtain ⟨c1, c2, c3, c4, c5⟩ := h s t σ (by omega) (by omega) t0 t1
  exact ⟨c1, c2, c3, c4, fun a b c e => c5 a b c (by omega)⟩
theorem zS5.num {i : Int} (h : k i = 0) : zS5 k ab F i (i + 1) 1 (some (ab i)) := by
  intro B P hC t σ t0 tD hB hP
  refine (hC i t σ (by omega) (by omega) t0 (by omega)).1 h (by omega) (hP _ rfl _ (fun q _ q1 => ?_) ?_)
  · unfold zsu; rw [if_neg (by omega)]
  · unfold zsu; rw [if_pos rfl]
theorem zS5.wrd {i : Int} (h : k i = 1) (h0 : 0 ≤ ab i) (h1 : ab i < 12) : zS5 k ab F i (i + 1) 1 (some (F (ab i))) := by
  intro B P hC t σ t0 tD hB hP
  refine (hC i t σ (by omega) (by omega) t0 (by omega)).2.1 h (by omega) h0 h1 (hP _ rfl _ (fun q _ q1 => ?_) ?_)
  · unfold zsu; rw [if_neg (by omega)]
  · unfold zsu; rw [if_pos rfl]
def zjo (κ : Int) (r1 r2 : Option Int) : Option Int := r1.bind (fun x => r2.bind (fun y => zjn κ x y))
theorem zS5.bin {i j m : Int} {D1 D2 : Nat} {r1 r2 : Option Int} (h1 : zS5 k ab F i j D1 r1) (h2 : zS5 k ab F j m D2 r2) (ij : i ≤ j) (jm : j ≤ m) (hk : 2 ≤ k m) (hk2 : k m < 9) (hD : 1 ≤ D2) (b1 : ∀ v, r1 = some v → zb9 v) (b2 : ∀ v, r2 = some v → zb9 v) : zS5 k ab F i (m + 1) (max D1 (D2 + 1)) (zjo (k m) r1 r2) := by
  intro B P hC t σ t0 tD hB hP
  have m1 := Nat.le_max_left D1 (D2 + 1)
  have m2 := Nat.le_max_right D1 (D2 + 1)
  refine h1 B P (hC.mono (by omega) (by omega)) t σ t0 (by omega) (fun e => hB (by rw [e]; rfl)) (fun a ea σ1 s1 s1t => ?_)
  refine h2 B P (hC.mono (by omega) (by omega)) (t + 1) σ1 (by omega) (by omega) (fun e => hB (by rw [ea, e]; rfl)) (fun b eb σ2 s2 s2t => ?_)
  have v1 : σ2 (t + 1 + 1 - 2) = a := by rw [show t + 1 + 1 - 2 = t by omega, s2 t t0 (by omega)]; exact s1t
  have v2 : σ2 (t + 1 + 1 - 1) = b := by rw [show t + 1 + 1 - 1 = t + 1 by omega]; exact s2t
  refine (hC m (t + 1 + 1) σ2 (by omega) (by omega) (by omega) (by omega)).2.2.1 hk hk2 (by omega) (by rw [v1]; exact b1 a ea) (by rw [v2]; exact b2 b eb) (fun e => hB ?_) (fun v ev => ?_)
  · rw [v1, v2] at e
    rw [ea, eb]
    exact e
  · rw [v1, v2] at ev
    rw [show t + 1 + 1 - 1 = t + 1 by omega, show t + 1 + 1 - 2 = t by omega]
    refine hP v (by rw [ea, eb]; exact ev) _ (fun q q0 q1 => ?_) (by unfold zsu; rw [if_pos rfl])
    unfold zsu
    rw [if_neg (by omega), s2 q q0 (by omega)]
    exact s1 q q0 q1
theorem zS5.neg {i j : Int} {D : Nat} {r : Option Int} (h : zS5 k ab F i j D r) (ij : i ≤ j) (hk : k j = 9) (hD : 1 ≤ D) (b : ∀ v, r = some v → zb9 v) : zS5 k ab F i (j + 1) D (r.map (fun x => 1 - x)) := by
  intro B P hC t σ t0 tD hB hP
  refine h B P (hC.mono (by omega) (by omega)) t σ t0 (by omega) (fun e => hB (by rw [e]; rfl)) (fun a ea σ1 s1 s1t => ?_)
  have v1 : σ1 (t + 1 - 1) = a := by rw [show t + 1 - 1 = t by omega]; exact s1t
  refine (hC j (t + 1) σ1 (by omega) (by omega) (by omega) (by omega)).2.2.2.1 hk (by omega) (by rw [v1]; exact b a ea) ?_
  rw [v1, show t + 1 - 1 = t by omega]
  refine hP (1 - a) (by rw [ea]; rfl) _ (fun q q0 q1 => ?_) (by unfold zsu; rw [if_pos rfl])
  unfold zsu
  rw [if_neg (by omega)]
  exact s1 q q0 q1
def zaq (κ : Int) (r1 r2 : Option Int) : Option Int := r1.bind (fun x => if x = (if κ = 10 then 1 else 0) then some x else r2)
theorem zS5.aor {i j m : Int} {D1 D2 : Nat} {r1 r2 : Option Int} (h1 : zS5 k ab F i j D1 r1) (h2 : zS5 k ab F (j + 1) m D2 r2) (ij : i ≤ j) (jm : j < m) (hk : k j = 10 ∨ k j = 11) (ha : ab j = m) (hD : 1 ≤ D1) : zS5 k ab F i m (max D1 D2) (zaq (k j) r1 r2) := by
  intro B P hC t σ t0 tD hB hP
  have m1 := Nat.le_max_left D1 D2
  have m2 := Nat.le_max_right D1 D2
  refine h1 B P (hC.mono (by omega) (by omega)) t σ t0 (by omega) (fun e => hB (by rw [e]; rfl)) (fun a ea σ1 s1 s1t => ?_)
  have v1 : σ1 (t + 1 - 1) = a := by rw [show t + 1 - 1 = t by omega]; exact s1t
  refine (hC j (t + 1) σ1 (by omega) (by omega) (by omega) (by omega)).2.2.2.2 hk (by omega) (by omega) (by omega) (fun e => ?_) (fun e => ?_)
  · rw [v1] at e
    rw [ha]
    refine hP a ?_ σ1 s1 s1t
    rw [ea]
    show (if a = _ then some a else r2) = some a
    rw [if_pos e]
  · rw [v1] at e
    rw [show t + 1 - 1 = t by omega]
    have er : zaq (k j) r1 r2 = r2 := by
      rw [ea]
      show (if a = _ then some a else r2) = r2
      rw [if_neg e]
    rw [er] at hB hP
    refine h2 B P (hC.mono (by omega) (by omega)) t σ1 t0 (by omega) hB (fun b eb σ2 s2 s2t => hP b eb σ2 (fun q q0 q1 => ?_) s2t)
    rw [s2 q q0 q1]
    exact s1 q q0 q1
end
abbrev zSem : Type := (Int → Int) → Option Int
abbrev zRs : Type := Option (Nat × Nat × Option zSem)
def zbd (x : zRs) (f : Nat → Nat → zSem → zRs) : zRs := match x with
  | none => none
  | some (q, lv, none) => some (q, lv, none)
  | some (q, lv, some w) => f q lv w
def zj2 (κ : Int) (a w : zSem) : zSem := fun F => zjo κ (a F) (w F)
def zno (w : zSem) : zSem := fun F => (w F).map (fun x => 1 - x)
def zao (κ : Int) (a w : zSem) : zSem := fun F => zaq κ (a F) (w F)
def zPp (T : Int → Int) (L : Nat) : Nat → Nat → Nat → Nat → Nat → zSem → zRs
  | 0, _, _, _, _, _ => none
  | n + 1, md, dp, q, lv, a =>
    if md = 0 then
      (if zsr T L q = 3 ∧ T q = 91 then (if dp < 8 then zbd (zPp T L n 3 (dp + 1) (znx T L q) lv a) (fun q1 lv1 w => if zsr T L q1 = 3 ∧ T q1 = 93 then some (znx T L q1, lv1, some w) else some (q1, lv1, none)) else some (q, lv, none))
      else if (znh T L q ≠ -1 ∨ zwh T L q ≠ -1) ∧ lv < 50 then some (znx T L q, lv + 1, some (fun F => if znh T L q ≠ -1 then some (znh T L q) else some (F (zwh T L q)))) else some (q, lv, none))
    else if md = 1 then zbd (zPp T L n 0 dp q lv a) (fun q1 lv1 w => zPp T L n 2 dp q1 lv1 w)
    else if md = 2 then (if zsr T L q = 3 ∧ (T q = 42 ∨ T q = 47) then zbd (zPp T L n 0 dp (znx T L q) lv a) (fun q1 lv1 w => zPp T L n 2 dp q1 lv1 (zj2 (if T q = 42 then 4 else 5) a w)) else some (q, lv, some a))
    else if md = 3 then zbd (zPp T L n 1 dp q lv a) (fun q1 lv1 w => zPp T L n 4 dp q1 lv1 w)
    else if md = 4 then (if zsr T L q = 3 ∧ (T q = 43 ∨ T q = 45) then zbd (zPp T L n 1 dp (znx T L q) lv a) (fun q1 lv1 w => zPp T L n 4 dp q1 lv1 (zj2 (if T q = 43 then 2 else 3) a w)) else some (q, lv, some a))
    else if md = 5 then
      (if zsr T L q = 1 ∧ zwo T L q = 14836 then zbd (zPp T L n 5 dp (znx T L q) lv a) (fun q1 lv1 w => some (q1, lv1, some (zno w)))
      else if zsr T L q = 3 ∧ T q = 40 then (if dp < 8 then zbd (zPp T L n 8 (dp + 1) (znx T L q) lv a) (fun q1 lv1 w => if zsr T L q1 = 3 ∧ T q1 = 41 then some (znx T L q1, lv1, some w) else some (q1, lv1, none)) else some (q, lv, none))
      else zbd (zPp T L n 3 dp q lv a) (fun q1 lv1 w => if zsr T L q1 = 3 ∧ (T q1 = 60 ∨ T q1 = 62 ∨ T q1 = 61) then zbd (zPp T L n 3 dp (znx T L q1) lv1 a) (fun q2 lv2 w2 => some (q2, lv2, some (zj2 (if T q1 = 60 then 6 else if T q1 = 62 then 7 else 8) w w2))) else some (q1, lv1, none)))
    else if md = 6 then zbd (zPp T L n 5 dp q lv a) (fun q1 lv1 w => zPp T L n 7 dp q1 lv1 w)
    else if md = 7 then (if zsr T L q = 1 ∧ zwo T L q = 1476 then zbd (zPp T L n 5 dp (znx T L q) lv a) (fun q1 lv1 w => zPp T L n 7 dp q1 lv1 (zao 11 a w)) else some (q, lv, some a))
    else if md = 8 then zbd (zPp T L n 6 dp q lv a) (fun q1 lv1 w => zPp T L n 9 dp q1 lv1 w)
    else (if zsr T L q = 1 ∧ zwo T L q = 498 then zbd (zPp T L n 6 dp (znx T L q) lv a) (fun q1 lv1 w => zPp T L n 9 dp q1 lv1 (zao 10 a w)) else some (q, lv, some a))
section
variable {T : Int → Int} {L n dp q lv : Nat} {a : zSem}
theorem zPp_0 : zPp T L (n + 1) 0 dp q lv a = (if zsr T L q = 3 ∧ T q = 91 then (if dp < 8 then zbd (zPp T L n 3 (dp + 1) (znx T L q) lv a) (fun q1 lv1 w => if zsr T L q1 = 3 ∧ T q1 = 93 then some (znx T L q1, lv1, some w) else some (q1, lv1, none)) else some (q, lv, none))
      else if (znh T L q ≠ -1 ∨ zwh T L q ≠ -1) ∧ lv < 50 then some (znx T L q, lv + 1, some (fun F => if znh T L q ≠ -1 then some (znh T L q) else some (F (zwh T L q)))) else some (q, lv, none)) := rfl
theorem zPp_1 : zPp T L (n + 1) 1 dp q lv a = zbd (zPp T L n 0 dp q lv a) (fun q1 lv1 w => zPp T L n 2 dp q1 lv1 w) := rfl
theorem zPp_2 : zPp T L (n + 1) 2 dp q lv a = (if zsr T L q = 3 ∧ (T q = 42 ∨ T q = 47) then zbd (zPp T L n 0 dp (znx T L q) lv a) (fun q1 lv1 w => zPp T L n 2 dp q1 lv1 (zj2 (if T q = 42 then 4 else 5) a w)) else some (q, lv, some a)) := rfl
theorem zPp_3 : zPp T L (n + 1) 3 dp q lv a = zbd (zPp T L n 1 dp q lv a) (fun q1 lv1 w => zPp T L n 4 dp q1 lv1 w) := rfl
theorem zPp_4 : zPp T L (n + 1) 4 dp q lv a = (if zsr T L q = 3 ∧ (T q = 43 ∨ T q = 45) then zbd (zPp T L n 1 dp (znx T L q) lv a) (fun q1 lv1 w => zPp T L n 4 dp q1 lv1 (zj2 (if T q = 43 then 2 else 3) a w)) else some (q, lv, some a)) := rfl
theorem zPp_5 : zPp T L (n + 1) 5 dp q lv a = (if zsr T L q = 1 ∧ zwo T L q = 14836 then zbd (zPp T L n 5 dp (znx T L q) lv a) (fun q1 lv1 w => some (q1, lv1, some (zno w)))
      else if zsr T L q = 3 ∧ T q = 40 then (if dp < 8 then zbd (zPp T L n 8 (dp + 1) (znx T L q) lv a) (fun q1 lv1 w => if zsr T L q1 = 3 ∧ T q1 = 41 then some (znx T L q1, lv1, some w) else some (q1, lv1, none)) else some (q, lv, none))
      else zbd (zPp T L n 3 dp q lv a) (fun q1 lv1 w => if zsr T L q1 = 3 ∧ (T q1 = 60 ∨ T q1 = 62 ∨ T q1 = 61) then zbd (zPp T L n 3 dp (znx T L q1) lv1 a) (fun q2 lv2 w2 => some (q2, lv2, some (zj2 (if T q1 = 60 then 6 else if T q1 = 62 then 7 else 8) w w2))) else some (q1, lv1, none))) := rfl
theorem zPp_6 : zPp T L (n + 1) 6 dp q lv a = zbd (zPp T L n 5 dp q lv a) (fun q1 lv1 w => zPp T L n 7 dp q1 lv1 w) := rfl
theorem zPp_7 : zPp T L (n + 1) 7 dp q lv a = (if zsr T L q = 1 ∧ zwo T L q = 1476 then zbd (zPp T L n 5 dp (znx T L q) lv a) (fun q1 lv1 w => zPp T L n 7 dp q1 lv1 (zao 11 a w)) else some (q, lv, some a)) := rfl
theorem zPp_8 : zPp T L (n + 1) 8 dp q lv a = zbd (zPp T L n 6 dp q lv a) (fun q1 lv1 w => zPp T L n 9 dp q1 lv1 w) := rfl
theorem zPp_9 : zPp T L (n + 1) 9 dp q lv a = (if zsr T L q = 1 ∧ zwo T L q = 498 then zbd (zPp T L n 6 dp (znx T L q) lv a) (fun q1 lv1 w => zPp T L n 9 dp q1 lv1 (zao 10 a w)) else some (q, lv, some a)) := rfl
end
/-- zbd, taken apart -/
theorem zbd_some {x : zRs} {f : Nat → Nat → zSem → zRs} {r : Nat × Nat × Option zSem} (h : zbd x f = some r) : (∃ q lv, x = some (q, lv, none) ∧ r = (q, lv, none)) ∨ (∃ q lv w, x = some (q, lv, some w) ∧ f q lv w = some r) := by
  match x, h with
  | some (q, lv, none), h => exact Or.inl ⟨q, lv, rfl, (Option.some.inj h).symm⟩
  | some (q, lv, some w), h => exact Or.inr ⟨q, lv, w, rfl, h⟩
/-- how far it goes -/
theorem zPp_far {T : Int → Int} {L : Nat} : ∀ (n md dp q lv : Nat) (a : zSem) (q' lv' : Nat) (r : Option zSem), md < 10 → q ≤ L → lv ≤ 50 → zPp T L n md dp q lv a = some (q', lv', r) → q ≤ q' ∧ q' ≤ L ∧ lv ≤ lv' ∧ lv' ≤ 50 ∧ (r ≠ none → md = 0 ∨ md = 1 ∨ md = 3 ∨ md = 5 ∨ md = 6 ∨ md = 8 → q < q' ∧ lv < lv') := by
  intro n
  induction n with
  | zero => intro md dp q lv a q' lv' r _ _ _ h; exact absurd h (by intro e; cases e)
  | succ n ih =>
    intro md dp q lv a q' lv' r hmd hq hlv h
    have nx : ∀ p : Nat, p ≤ L → zsr T L p ≠ 0 → znx T L p ≤ L ∧ p < znx T L p := fun p hp hs => ⟨(znx_bd hp).1, (znx_bd hp).2.2 hs⟩
    have two : ∀ (m1 m2 : Nat) (q0 : Nat) (f : zSem → zSem), m1 < 10 → m2 < 10 → (m1 = 0 ∨ m1 = 1 ∨ m1 = 3 ∨ m1 = 5 ∨ m1 = 6 ∨ m1 = 8) → q ≤ q0 → q0 ≤ L → zbd (zPp T L n m1 dp q0 lv a) (fun q1 lv1 w => zPp T L n m2 dp q1 lv1 (f w)) = some (q', lv', r) → q ≤ q' ∧ q' ≤ L ∧ lv ≤ lv' ∧ lv' ≤ 50 ∧ (r ≠ none → q < q' ∧ lv < lv') := fun m1 m2 q0 f h1 h2 hm h3 h4 e => by
      rcases zbd_some e with ⟨q1, lv1, e1, e2⟩ | ⟨q1, lv1, w, e1, e2⟩
      · have i := ih _ _ _ _ _ _ _ _ h1 h4 hlv e1
        cases e2
        exact ⟨by omega, i.2.1, i.2.2.1, i.2.2.2.1, fun z => absurd rfl z⟩
      · have i := ih _ _ _ _ _ _ _ _ h1 h4 hlv e1
        have i5 := i.2.2.2.2 (by intro z; cases z) hm
        have j := ih _ _ _ _ _ _ _ _ h2 i.2.1 i.2.2.2.1 e2
        exact ⟨by omega, j.2.1, by omega, j.2.2.2.1, fun _ => by omega⟩
    have brk : ∀ (m1 : Nat) (c1 c2 : Int), m1 < 10 → (m1 = 0 ∨ m1 = 1 ∨ m1 = 3 ∨ m1 = 5 ∨ m1 = 6 ∨ m1 = 8) → (zsr T L q = 3 ∧ T q = c1) → (if dp < 8 then zbd (zPp T L n m1 (dp + 1) (znx T L q) lv a) (fun q1 lv1 w => if zsr T L q1 = 3 ∧ T q1 = c2 then some (znx T L q1, lv1, some w) else some (q1, lv1, none)) else some (q, lv, none)) = some (q', lv', r) → q ≤ q' ∧ q' ≤ L ∧ lv ≤ lv' ∧ lv' ≤ 50 ∧ (r ≠ none → q < q' ∧ lv < lv') := fun m1 c1 c2 h1 hm hs e => by
      have nq := nx q hq (by omega)
      split at e
      · rcases zbd_some e with ⟨q1, lv1, e1, e2⟩ | ⟨q1, lv1, w, e1, e2⟩
        · have i := ih _ _ _ _ _ _ _ _ h1 nq.1 hlv e1
          cases e2
          exact ⟨by omega, i.2.1, i.2.2.1, i.2.2.2.1, fun z => absurd rfl z⟩
        · have i := ih _ _ _ _ _ _ _ _ h1 nq.1 hlv e1
          have i5 := i.2.2.2.2 (by intro z; cases z) hm
          split at e2
          · rename_i hs1
            have n1 := nx q1 i.2.1 (by omega)
            cases e2
            exact ⟨by omega, n1.1, by omega, i.2.2.2.1, fun _ => by omega⟩
          · cases e2
            exact ⟨by omega, i.2.1, by omega, i.2.2.2.1, fun z => absurd rfl z⟩
      · cases e
        exact ⟨by omega, hq, by omega, hlv, fun z => absurd rfl z⟩
    have tail : ∀ {c : Prop} [Decidable c] (m1 m2 : Nat) (f : zSem → zSem), m1 < 10 → m2 < 10 → (m1 = 0 ∨ m1 = 1 ∨ m1 = 3 ∨ m1 = 5 ∨ m1 = 6 ∨ m1 = 8) → (c → zsr T L q ≠ 0) → (if c then zbd (zPp T L n m1 dp (znx T L q) lv a) (fun q1 lv1 w => zPp T L n m2 dp q1 lv1 (f w)) else some (q, lv, some a)) = some (q', lv', r) → q ≤ q' ∧ q' ≤ L ∧ lv ≤ lv' ∧ lv' ≤ 50 := fun {c} _ m1 m2 f h1 h2 hm hs e => by
      split at e
      · rename_i hc
        have nq := nx q hq (hs hc)
        have := two m1 m2 (znx T L q) f h1 h2 hm (by omega) nq.1 e
        exact ⟨this.1, this.2.1, this.2.2.1, this.2.2.2.1⟩
      · cases e
        exact ⟨by omega, hq, by omega, hlv⟩
    have fin5 : (q ≤ q' ∧ q' ≤ L ∧ lv ≤ lv' ∧ lv' ≤ 50 ∧ (r ≠ none → q < q' ∧ lv < lv')) → q ≤ q' ∧ q' ≤ L ∧ lv ≤ lv' ∧ lv' ≤ 50 ∧ (r ≠ none → md = 0 ∨ md = 1 ∨ md = 3 ∨ md = 5 ∨ md = 6 ∨ md = 8 → q < q' ∧ lv < lv') := fun z => ⟨z.1, z.2.1, z.2.2.1, z.2.2.2.1, fun a _ => z.2.2.2.2 a⟩
    have fin4 : ¬ (md = 0 ∨ md = 1 ∨ md = 3 ∨ md = 5 ∨ md = 6 ∨ md = 8) → (q ≤ q' ∧ q' ≤ L ∧ lv ≤ lv' ∧ lv' ≤ 50) → q ≤ q' ∧ q' ≤ L ∧ lv ≤ lv' ∧ lv' ≤ 50 ∧ (r ≠ none → md = 0 ∨ md = 1 ∨ md = 3 ∨ md = 5 ∨ md = 6 ∨ md = 8 → q < q' ∧ lv < lv') := fun no z => ⟨z.1, z.2.1, z.2.2.1, z.2.2.2, fun _ b => absurd b no⟩
    obtain rfl | rfl | rfl | rfl | rfl | rfl | rfl | rfl | rfl | rfl : md = 0 ∨ md = 1 ∨ md = 2 ∨ md = 3 ∨ md = 4 ∨ md = 5 ∨ md = 6 ∨ md = 7 ∨ md = 8 ∨ md = 9 := by omega
    · refine fin5 ?_
      rw [zPp_0] at h
      split at h
      · rename_i hs
        exact brk 3 91 93 (by decide) (by decide) hs h
      · split at h
        · rename_i hl
          have s0 : zsr T L q ≠ 0 := by
            intro z
            rcases hl.1 with w | w
            · unfold znh at w; rw [if_neg (by omega)] at w; exact w rfl
            · apply w
              have : ∀ n j, zwi T L q n j = -1 := by
                intro n
                induction n with
                | zero => intro j; rfl
                | succ n ihn => intro j; rw [zwi_no (fun y => by have := y.1; omega)]; exact ihn _
              exact this 12 0
          have nq := nx q hq s0
          cases h
          exact ⟨by omega, nq.1, by omega, by omega, fun _ => by omega⟩
        · cases h
          exact ⟨by omega, hq, by omega, hlv, fun z => absurd rfl z⟩
    · exact fin5 (two 0 2 q (fun w => w) (by decide) (by decide) (by decide) (by omega) hq h)
    · exact fin4 (by decide) (tail 0 2 (fun w => zj2 (if T q = 42 then 4 else 5) a w) (by decide) (by decide) (by decide) (fun z => by omega) (zPp_2.symm.trans h))
    · exact fin5 (two 1 4 q (fun w => w) (by decide) (by decide) (by decide) (by omega) hq h)
    · exact fin4 (by decide) (tail 1 4 (fun w => zj2 (if T q = 43 then 2 else 3) a w) (by decide) (by decide) (by decide) (fun z => by omega) (zPp_4.symm.trans h))
    · refine fin5 ?_
      rw [zPp_5] at h
      split at h
      · rename_i hs
        have nq := nx q hq (by omega)
        rcases zbd_some h with ⟨q1, lv1, e1, e2⟩ | ⟨q1, lv1, w, e1, e2⟩
        · have i := ih _ _ _ _ _ _ _ _ (by decide) nq.1 hlv e1
          cases e2
          exact ⟨by omega, i.2.1, i.2.2.1, i.2.2.2.1, fun z => absurd rfl z⟩
        · have i := ih _ _ _ _ _ _ _ _ (by decide) nq.1 hlv e1
          have i5 := i.2.2.2.2 (by intro z; cases z) (by decide)
          cases e2
          exact ⟨by omega, i.2.1, by omega, i.2.2.2.1, fun _ => by omega⟩
      · split at h
        · rename_i hs
          exact brk 8 40 41 (by decide) (by decide) hs h
        · rcases zbd_some h with ⟨q1, lv1, e1, e2⟩ | ⟨q1, lv1, w, e1, e2⟩
          · have i := ih _ _ _ _ _ _ _ _ (by decide) hq hlv e1
            cases e2
            exact ⟨by omega, i.2.1, i.2.2.1, i.2.2.2.1, fun z => absurd rfl z⟩
          · have i := ih _ _ _ _ _ _ _ _ (by decide) hq hlv e1
            have i5 := i.2.2.2.2 (by intro z; cases z) (by decide)
            split at e2
            · rename_i hs
              have n1 := nx q1 i.2.1 (by omega)
              rcases zbd_some e2 with ⟨q2, lv2, e3, e4⟩ | ⟨q2, lv2, w2, e3, e4⟩
              · have j := ih _ _ _ _ _ _ _ _ (by decide) n1.1 i.2.2.2.1 e3
                cases e4
                exact ⟨by omega, j.2.1, by omega, j.2.2.2.1, fun z => absurd rfl z⟩
              · have j := ih _ _ _ _ _ _ _ _ (by decide) n1.1 i.2.2.2.1 e3
                cases e4
                exact ⟨by omega, j.2.1, by omega, j.2.2.2.1, fun _ => by omega⟩
            · cases e2
              exact ⟨by omega, i.2.1, by omega, i.2.2.2.1, fun z => absurd rfl z⟩
    · exact fin5 (two 5 7 q (fun w => w) (by decide) (by decide) (by decide) (by omega) hq h)
    · exact fin4 (by decide) (tail 5 7 (fun w => zao 11 a w) (by decide) (by decide) (by decide) (fun z => by omega) (zPp_7.symm.trans h))
    · exact fin5 (two 6 9 q (fun w => w) (by decide) (by decide) (by decide) (by omega) hq h)
    · exact fin4 (by decide) (tail 6 9 (fun w => zao 10 a w) (by decide) (by decide) (by decide) (fun z => by omega) (zPp_9.symm.trans h))

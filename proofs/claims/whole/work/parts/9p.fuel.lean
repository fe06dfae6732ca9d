def zrk (md : Nat) : Nat := if md = 0 then 1 else if md = 1 then 2 else if md = 3 then 3 else if md = 5 then 4 else if md = 6 then 5 else if md = 8 then 6 else 0
theorem zbd_tot {x : zRs} {f : Nat → Nat → zSem → zRs} (h : ∃ r, x = some r) (hf : ∀ q lv w, x = some (q, lv, some w) → ∃ r, f q lv w = some r) : ∃ r, zbd x f = some r := by
  obtain ⟨⟨q, lv, w⟩, e⟩ := h
  cases w with
  | none => exact ⟨_, by rw [e]; rfl⟩
  | some w =>
    obtain ⟨r, hr⟩ := hf q lv w e
    exact ⟨r, by rw [e]; exact hr⟩
/-- there is enough of it -/
theorem zPp_tot {T : Int → Int} {L : Nat} : ∀ (n md dp q lv : Nat) (a : zSem), md < 10 → q ≤ L → lv ≤ 50 → 10 * (L - q) + zrk md < n → ∃ r, zPp T L n md dp q lv a = some r := by
  intro n
  induction n with
  | zero => intro md dp q lv a _ _ _ h; omega
  | succ n ih =>
    intro md dp q lv a hmd hq hlv h
    have nx : ∀ p : Nat, p ≤ L → zsr T L p ≠ 0 → znx T L p ≤ L ∧ p < znx T L p := fun p hp hs => ⟨(znx_bd hp).1, (znx_bd hp).2.2 hs⟩
    have rk9 : ∀ m, zrk m ≤ 6 := fun m => by unfold zrk; (repeat' split) <;> omega
    have two : ∀ (m1 m2 : Nat) (q0 : Nat) (f : zSem → zSem), m1 < 10 → m2 < 10 → (m1 = 0 ∨ m1 = 1 ∨ m1 = 3 ∨ m1 = 5 ∨ m1 = 6 ∨ m1 = 8) → q ≤ q0 → q0 ≤ L → 10 * (L - q0) + zrk m1 < n → 10 * (L - q) < n + 1 → ∃ r, zbd (zPp T L n m1 dp q0 lv a) (fun q1 lv1 w => zPp T L n m2 dp q1 lv1 (f w)) = some r := fun m1 m2 q0 f h1 h2 hm h3 h4 h5 h6 => by
      refine zbd_tot (ih _ _ _ _ _ h1 h4 hlv h5) (fun q1 lv1 w e => ?_)
      have i := zPp_far _ _ _ _ _ _ _ _ _ h1 h4 hlv e
      have i5 := i.2.2.2.2 (by intro z; cases z) hm
      have := rk9 m2
      exact ih _ _ _ _ _ h2 i.2.1 i.2.2.2.1 (by omega)
    have brk : ∀ (m1 : Nat) (c2 : Int), m1 < 10 → zsr T L q = 3 → 10 * (L - q) < n + 1 → ∃ r, (if dp < 8 then zbd (zPp T L n m1 (dp + 1) (znx T L q) lv a) (fun q1 lv1 w => if zsr T L q1 = 3 ∧ T q1 = c2 then some (znx T L q1, lv1, some w) else some (q1, lv1, none)) else some (q, lv, none)) = some r := fun m1 c2 h1 hs h6 => by
      have nq := nx q hq (by omega)
      have := rk9 m1
      split
      · refine zbd_tot (ih _ _ _ _ _ h1 nq.1 hlv (by omega)) (fun q1 lv1 w e => ?_)
        split
        · exact ⟨_, rfl⟩
        · exact ⟨_, rfl⟩
      · exact ⟨_, rfl⟩
    have tail : ∀ {c : Prop} [Decidable c] (m1 m2 : Nat) (f : zSem → zSem), m1 < 10 → m2 < 10 → (m1 = 0 ∨ m1 = 1 ∨ m1 = 3 ∨ m1 = 5 ∨ m1 = 6 ∨ m1 = 8) → (c → zsr T L q ≠ 0) → 10 * (L - q) < n + 1 → ∃ r, (if c then zbd (zPp T L n m1 dp (znx T L q) lv a) (fun q1 lv1 w => zPp T L n m2 dp q1 lv1 (f w)) else some (q, lv, some a)) = some r := fun {c} _ m1 m2 f h1 h2 hm hs h6 => by
      have := rk9 m1
      split
      · rename_i hc
        have nq := nx q hq (hs hc)
        exact two m1 m2 (znx T L q) f h1 h2 hm (by omega) nq.1 (by omega) h6
      · exact ⟨_, rfl⟩
    obtain rfl | rfl | rfl | rfl | rfl | rfl | rfl | rfl | rfl | rfl : md = 0 ∨ md = 1 ∨ md = 2 ∨ md = 3 ∨ md = 4 ∨ md = 5 ∨ md = 6 ∨ md = 7 ∨ md = 8 ∨ md = 9 := by omega
    · rw [zPp_0]
      split
      · rename_i hs
        exact brk 3 93 (by decide) hs.1 (by omega)
      · split
        · exact ⟨_, rfl⟩
        · exact ⟨_, rfl⟩
    · have e1 : zrk 1 = 2 := rfl
      have e2 : zrk 0 = 1 := rfl
      exact two 0 2 q (fun w => w) (by decide) (by decide) (by decide) (by omega) hq (by omega) (by omega)
    · rw [zPp_2]
      exact tail 0 2 (fun w => zj2 (if T q = 42 then 4 else 5) a w) (by decide) (by decide) (by decide) (fun z => by omega) (by omega)
    · have e1 : zrk 3 = 3 := rfl
      have e2 : zrk 1 = 2 := rfl
      exact two 1 4 q (fun w => w) (by decide) (by decide) (by decide) (by omega) hq (by omega) (by omega)
    · rw [zPp_4]
      exact tail 1 4 (fun w => zj2 (if T q = 43 then 2 else 3) a w) (by decide) (by decide) (by decide) (fun z => by omega) (by omega)
    · have e1 : zrk 5 = 4 := rfl
      have e2 : zrk 3 = 3 := rfl
      rw [zPp_5]
      split
      · rename_i hs
        have nq := nx q hq (by omega)
        exact zbd_tot (ih _ _ _ _ _ (by decide) nq.1 hlv (by omega)) (fun q1 lv1 w e => ⟨_, rfl⟩)
      · split
        · rename_i hs
          exact brk 8 41 (by decide) hs.1 (by omega)
        · refine zbd_tot (ih _ _ _ _ _ (by decide) hq hlv (by omega)) (fun q1 lv1 w e => ?_)
          have i := zPp_far _ _ _ _ _ _ _ _ _ (by decide) hq hlv e
          have i5 := i.2.2.2.2 (by intro z; cases z) (by decide)
          split
          · rename_i hs
            have n1 := nx q1 i.2.1 (by omega)
            exact zbd_tot (ih _ _ _ _ _ (by decide) n1.1 i.2.2.2.1 (by omega)) (fun q1 lv1 w e => ⟨_, rfl⟩)
          · exact ⟨_, rfl⟩
    · have e1 : zrk 6 = 5 := rfl
      have e2 : zrk 5 = 4 := rfl
      exact two 5 7 q (fun w => w) (by decide) (by decide) (by decide) (by omega) hq (by omega) (by omega)
    · rw [zPp_7]
      exact tail 5 7 (fun w => zao 11 a w) (by decide) (by decide) (by decide) (fun z => by omega) (by omega)
    · have e1 : zrk 8 = 6 := rfl
      have e2 : zrk 6 = 5 := rfl
      exact two 6 9 q (fun w => w) (by decide) (by decide) (by decide) (by omega) hq (by omega) (by omega)
    · rw [zPp_9]
      exact tail 6 9 (fun w => zao 10 a w) (by decide) (by decide) (by decide) (fun z => by omega) (by omega)

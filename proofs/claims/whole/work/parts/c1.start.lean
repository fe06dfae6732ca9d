/-! the memory after both constructors: references where they belong -/
def zcA : zCs := zc_S 0 ++ zc_M 1320
def zrgOk (k : Nat) (x : Nat × Nat × (Int → Int)) : Bool := (if x.1 < 12 then (List.range 56).all (fun i => match zof x.1 i with | none => true | some o => x.2.2 (i : Int) == (k : Int) + o) else true) && (match zst x.1 with | none => true | some q => (List.range x.2.1).all (fun i => x.2.2 (i : Int) == (k : Int) + q.1 + q.2 * (i : Int)))
def zrgAll : Nat → zCs → Bool
  | _, [] => true
  | k, x :: xs => zrgOk k x && zrgAll (k + 1) xs
theorem zrgAll_get : ∀ (cs : zCs) (k r : Nat) (x : Nat × Nat × (Int → Int)), zrgAll k cs = true → cs[r]? = some x → zrgOk (k + r) x = true
  | [], k, r, x, _, e => by cases e
  | y :: ys, k, 0, x, h, e => by
    have e' : y = x := Option.some.inj e
    subst e'
    exact (Bool.and_eq_true _ _ ▸ h).1
  | y :: ys, k, r + 1, x, h, e => by
    have := zrgAll_get ys (k + 1) r x (Bool.and_eq_true _ _ ▸ h).2 e
    rw [show k + 1 + r = k + (r + 1) by omega] at this
    exact this
theorem zcA_rg : zrgAll 0 zcA = true := by decide +kernel
theorem zof_big (t j : Nat) : zof t (j + 56) = none := by
  unfold zof
  split <;> rfl
theorem zof_12 {t i : Nat} (h : 12 ≤ t) : zof t i = none := by
  unfold zof
  split <;> first | omega | rfl
theorem zcA_reg {μ0 ν : zM} (D : zDe μ0 ν 0 1348 zcA) : zreg ν := by
  intro k hk
  rw [D.1] at hk
  have hk2 : k < zcA.length := by rw [D.2.1]; omega
  obtain ⟨x, hx⟩ : ∃ x, zcA[k]? = some x := ⟨_, List.getElem?_eq_getElem hk2⟩
  have ok := zrgAll_get zcA 0 k x zcA_rg hx
  rw [Nat.zero_add] at ok
  obtain ⟨d1, d2, d3⟩ := D.2.2.2 k x hx
  rw [Nat.zero_add] at d1 d2 d3
  unfold zrgOk at ok
  rw [Bool.and_eq_true] at ok
  rw [d2, d3, d1]
  refine ⟨fun i o e => ?_, fun o s e i hi => ?_⟩
  · rw [Int.toNat_natCast] at e
    have h12 : x.1 < 12 := by
      refine Decidable.byContradiction (fun z => ?_)
      rw [zof_12 (by omega)] at e
      cases e
    have h56 : i < 56 := by
      refine Decidable.byContradiction (fun z => ?_)
      obtain ⟨j, rfl⟩ : ∃ j, i = j + 56 := ⟨i - 56, by omega⟩
      rw [zof_big] at e
      cases e
    have o1 := ok.1
    rw [if_pos h12] at o1
    have o2 := List.all_eq_true.mp o1 i (List.mem_range.mpr h56)
    rw [e] at o2
    exact eq_of_beq o2
  · rw [Int.toNat_natCast] at e
    have o1 := ok.2
    rw [e] at o1
    have o2 := List.all_eq_true.mp o1 i (List.mem_range.mpr (by omega))
    exact eq_of_beq o2

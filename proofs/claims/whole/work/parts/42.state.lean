/-! the class at 0, the reference at 1320: refusals, answers -/
def sref (μ : zM) (e k : Int) : zM := zup (zup μ 0 10 e) 103 k (zw (μ 103 k + 1))
def sok (μ : zM) : zM := zup μ 0 10 0
def mref (μ : zM) (v : Int) : zM := zup (zup μ 1320 1 v) 1321 (-v) (zw (μ 1321 (-v) + 1))
def mok (μ : zM) : zM := zup μ 1320 1 0
section
variable {X : zX} {l : Launch} {d : Nat} {μ : zM} {Q : Int → zM → Prop}
theorem k_S_allow {v : Int} (h : Q v (sok μ)) : zCi X true l d 0 0 y_S_allow [(12, 0, 0), (0, 0, v)] μ Q := c_S_allow h
theorem sref_eq {e k : Int} : zup (zup μ 0 10 e) 103 k (zw ((zup μ 0 10 e) 103 k + 1)) = sref μ e k := by
  unfold sref
  rw [zup_ne (by decide)]
theorem k_S_refuse1 (h : Q (-1) (sref μ (-1) 0)) : zCi X true l d 0 0 y_S_refuse [(12, 0, 0), (0, 0, (-1))] μ Q := by
  refine c_S_refuse ⟨fun c => absurd rfl c, fun _ => ?_⟩
  rw [← sref_eq] at h
  exact h
theorem k_S_refuse2 (h : Q (-2) (sref μ (-2) 1)) : zCi X true l d 0 0 y_S_refuse [(12, 0, 0), (0, 0, (-2))] μ Q := by
  refine c_S_refuse ⟨fun _ => ⟨fun c => absurd rfl c, fun _ => ?_⟩, fun c => absurd c (by decide)⟩
  rw [← sref_eq] at h
  exact h
theorem k_S_refuse5 (h : Q (-5) (sref μ (-5) 2)) : zCi X true l d 0 0 y_S_refuse [(12, 0, 0), (0, 0, (-5))] μ Q := by
  refine c_S_refuse ⟨fun _ => ⟨fun _ => ⟨by decide, by decide, ?_⟩, fun c => absurd c (by decide)⟩, fun c => absurd c (by decide)⟩
  rw [← sref_eq] at h
  exact h
theorem k_S_refuse6 (h : Q (-6) (sref μ (-6) 3)) : zCi X true l d 0 0 y_S_refuse [(12, 0, 0), (0, 0, (-6))] μ Q := by
  refine c_S_refuse ⟨fun _ => ⟨fun _ => ⟨by decide, by decide, ?_⟩, fun c => absurd c (by decide)⟩, fun c => absurd c (by decide)⟩
  rw [← sref_eq] at h
  exact h
theorem k_S_planInUse {Q : Int → zM → Prop} (hd : 2 ≤ d) (hu : 0 ≤ μ 1 0 ∧ μ 1 0 < 6) (h : Q (23 + 6 * μ 1 0) μ) : zCr 2 0 X true l d 0 0 y_S_planInUse [(12, 0, 0)] μ Q := by
  refine zC'_of (by decide +kernel) (Nat.le_of_ble_eq_true rfl) rfl (s_S_planInUse_0 (Q := zrr 2 0 Q) (d1 := 1) (by omega) (k_S_isPlan (fun p q => ⟨?_, ?_⟩) (fun p => absurd hu p)))
  · rw [if_neg (by decide)]
    exact hu
  · rw [if_neg (by decide)]
    exact ⟨_, rfl, h⟩
theorem k_S_isLaw {a : Int} (h1 : 0 ≤ a → a < μ 1 7 → a < 4 → Q 1 μ) (h0 : ¬ (0 ≤ a ∧ a < μ 1 7 ∧ a < 4) → Q 0 μ) : zCi X true l d 0 0 y_S_isLaw [(12, 0, 0), (0, 0, a)] μ Q :=
  c_S_isLaw ⟨fun c => h0 (by omega), fun c => ⟨fun c2 => h0 (fun q => by have : μ (0 + 1) 7 = μ 1 7 := rfl; omega), fun c2 => ⟨fun c3 => h0 (by omega), fun c3 => h1 (by omega) (by have : μ (0 + 1) 7 = μ 1 7 := rfl; omega) (by omega)⟩⟩⟩
theorem k_M_was {v : Int} (h : Q v (mok μ)) : zCi X true l d 0 0 y_M_was [(13, 0, 1320), (0, 0, v)] μ Q := c_M_was h
theorem k_M_change {a v : Int} (hd : 2 ≤ d) (h0 : 0 ≤ a) (h1 : a < 4080) (h : Q (μ 1322 a) (mok (zup μ 1322 a v))) : zCi X true l d 0 0 y_M_change [(13, 0, 1320), (0, 0, a), (0, 0, v)] μ Q :=
  c_M_change (d1 := 1) (by omega) ⟨⟨h0, h1⟩, ⟨h0, h1⟩, k_M_was h⟩
theorem k_M_tellp {v : Int} (hv : 0 ≤ v) (h : Q v (mok μ)) : zCi X true l d 0 0 y_M_tell [(13, 0, 1320), (0, 0, v)] μ Q := by
  refine c_M_tell ⟨fun _ => ?_, fun c => absurd hv c⟩
  rw [if_pos hv]
  exact h
theorem mref_eq {v : Int} : zup (zup μ 1320 1 v) 1321 (-v) (zw ((zup μ 1320 1 v) 1321 (-v) + 1)) = mref μ v := by
  unfold mref
  rw [zup_ne (by decide)]
theorem k_M_telln {v : Int} (hv : v = -1 ∨ v = -2 ∨ v = -5 ∨ v = -6) (h : Q v (mref μ v)) : zCi X true l d 0 0 y_M_tell [(13, 0, 1320), (0, 0, v)] μ Q := by
  have e : zw (-v) = -v := zw_of (by omega) (by omega)
  refine c_M_tell ⟨fun c => absurd c (by omega), fun _ => ?_⟩
  rw [if_neg (by omega), e]
  rw [← mref_eq] at h
  exact ⟨⟨by omega, by omega⟩, ⟨by omega, by omega⟩, h⟩
end

/-! the law's body, from its entry -/
section
variable {X : zX} {l : Launch} {nm : String} {d bc bs : Nat} {y : zMt} {pc : Nat} {ls : List (Option zV)} {st : List zV} {μ : zM} {Q : Option zV → zM → Prop}
theorem zE_true (hr : zreg μ) (k : zE X true l d bc bs y pc ls st μ Q) : zE X false l d bc bs y pc ls st μ Q := by
  intro p e R s m args below meth c H locs la cells slots hE hR hS hM hL hst
  refine zW_mono (fun t ⟨o, q1, q2, q3, q4⟩ => ⟨o, q1, q2, ?_, q4⟩) (k p e R s m args below meth c H locs la cells slots hE hR hS ⟨hM.1, hM.2.1, hM.2.2.1, fun _ => hr⟩ hL hst)
  obtain ⟨⟨r, ν, h1, h2, h3, h4, h5⟩, h6⟩ := q3
  exact ⟨⟨r, ν, h1, h2, h3, ⟨h4.1, h4.2.1, h4.2.2.1, fun q => by cases q⟩, h5⟩, h6⟩
theorem k_L (hX : X.2.2.2.2.1 ≤ 3072) (hd : 65 ≤ d) (h0 : μ (-1) 0 = 0) (hQ : ∀ ν, Q (some (0, 0, 1)) ν) : zE X false l d 1348 49180 (y_L nm) 0 [some (34, 0, 3), none, none, none] [] μ Q := by
  have h0' : μ (-1) 0 = ((0 : Nat) : Int) := h0
  refine s_L_0 (d1 := d - 1) (by omega) ⟨by omega, by omega, ?_⟩
  rw [h0']
  refine k_S_init (((zDe.nil h0').new (t := 10) (L := 0)).to rfl rfl) (by omega) (fun ν1 D1 => ?_)
  have n1 : ν1 (-1) 0 = ((1320 : Nat) : Int) := D1.1
  refine s_L_8 (d1 := d - 1) (by omega) ⟨by omega, by omega, ?_⟩
  rw [n1]
  refine k_M_init (((zDe.nil n1).new (t := 11) (L := 0)).to rfl rfl) (by omega) (fun ν2 D2 => ?_)
  refine s_L_16 ?_
  have D : zDe μ ν2 0 1348 zcA := D1.sub D2
  refine zE_true (zcA_reg D) (zE_bud (bc' := 0) (bs' := 0) (Nat.zero_le _) (Nat.zero_le _) ?_)
  exact k_L_loop (nm := nm) (d := d) hX (by omega) hQ (X.2.2.2.2.1 + 6) 0 (by omega) (by omega) ν2 (zcA_inv D)
end

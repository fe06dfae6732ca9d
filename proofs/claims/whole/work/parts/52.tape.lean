/-! feed: twenty bytes at the end of the tape, on both sides -/
theorem zand_byte (x : Int) : 0 ≤ zand x 255 ∧ zand x 255 < 256 := by
  unfold zand
  generalize Int32.ofInt x = y
  have h1 : (y &&& Int32.ofInt 255).toInt = (y.toBitVec &&& 255#32).toInt := rfl
  have h2 : (y.toBitVec &&& 255#32).toNat ≤ 255 := by
    rw [BitVec.toNat_and]
    exact Nat.and_le_right
  have h3 : (y.toBitVec &&& 255#32).toInt = (y.toBitVec &&& 255#32).toNat := BitVec.toInt_eq_toNat_of_lt (by omega)
  rw [h1, h3]
  omega
/-- one byte at the end of a tape (array a), whose count is slot f of cell c -/
def zone (μ : zM) (c f a t b : Int) : zM := zup (zup μ a t b) c f (t + 1)
def ztape4 (μ : zM) (c f a t x : Int) : zM := zone (zone (zone (zone μ c f a t (zand (zshr x 24) 255)) c f a (t + 1) (zand (zshr x 16) 255)) c f a (t + 1 + 1) (zand (zshr x 8) 255)) c f a (t + 1 + 1 + 1) (zand (zshr x 0) 255)
def ztp (τ : Int → Int) (t x : Int) : Int → Int := fun i => if i = t + 1 + 1 + 1 then zand (zshr x 0) 255 else if i = t + 1 + 1 then zand (zshr x 8) 255 else if i = t + 1 then zand (zshr x 16) 255 else if i = t then zand (zshr x 24) 255 else τ i
section
variable {LR : zM → Int → (Int → Int) → Prop} {μ : zM} {X : zX} {l : Launch} {d : Nat} {Q : Int → Int → zM → Prop} {c f a t x b : Int}
theorem zone_n : zone μ c f a t b c f = t + 1 := zup_hit
theorem zone_a (h : a ≠ c) : zone μ c f a t b a = fun i => if i = t then b else μ a i := by
  unfold zone
  rw [zup_ne h, zup_at]
theorem zone_c (h : a ≠ c) {j : Int} (hj : j ≠ f) : zone μ c f a t b c j = μ c j := by
  unfold zone
  rw [zup_miss (fun q => hj q.2), zup_ne (fun q => h q.symm)]
theorem zone_o {e : Int} (h1 : e ≠ c) (h2 : e ≠ a) : zone μ c f a t b e = μ e := by
  unfold zone
  rw [zup_ne h1, zup_ne h2]
theorem ztape4_n : ztape4 μ c f a t x c f = t + 1 + 1 + 1 + 1 := zone_n
theorem ztape4_a (h : a ≠ c) : ztape4 μ c f a t x a = ztp (μ a) t x := by
  unfold ztape4
  rw [zone_a h, zone_a h, zone_a h, zone_a h]
  rfl
theorem ztape4_c (h : a ≠ c) {j : Int} (hj : j ≠ f) : ztape4 μ c f a t x c j = μ c j := by
  unfold ztape4
  rw [zone_c h hj, zone_c h hj, zone_c h hj, zone_c h hj]
theorem ztape4_o {e : Int} (h1 : e ≠ c) (h2 : e ≠ a) : ztape4 μ c f a t x e = μ e := by
  unfold ztape4
  rw [zone_o h1 h2, zone_o h1 h2, zone_o h1 h2, zone_o h1 h2]
theorem ztp_ok {τ σ : Int → Int} (h : ∀ i : Int, 0 ≤ i → i < 400 → τ i = σ i ∧ 0 ≤ τ i ∧ τ i < 256) : ∀ i : Int, 0 ≤ i → i < 400 → ztp τ t x i = ztp σ t x i ∧ 0 ≤ ztp τ t x i ∧ ztp τ t x i < 256 := by
  intro i h0 h1
  unfold ztp
  by_cases c3 : i = t + 1 + 1 + 1
  · rw [if_pos c3, if_pos c3]; exact ⟨rfl, zand_byte _⟩
  · rw [if_neg c3, if_neg c3]
    by_cases c2 : i = t + 1 + 1
    · rw [if_pos c2, if_pos c2]; exact ⟨rfl, zand_byte _⟩
    · rw [if_neg c2, if_neg c2]
      by_cases c1 : i = t + 1
      · rw [if_pos c1, if_pos c1]; exact ⟨rfl, zand_byte _⟩
      · rw [if_neg c1, if_neg c1]
        by_cases c0 : i = t
        · rw [if_pos c0, if_pos c0]; exact ⟨rfl, zand_byte _⟩
        · rw [if_neg c0, if_neg c0]; exact h i h0 h1
theorem k_S_one {y : Int} {Q : Option zV → zM → Prop} (hy : 0 ≤ y ∧ y ≤ 24) (ht : μ 0 4 = t) (h0 : 0 ≤ t) (h1 : t < 400) (h : zE X true l d 0 0 y_S_tapeInt 3 [some (12, 0, 0), some (0, 0, x), some (0, 0, y - 8)] [] (zone μ 0 4 89 t (zand (zshr x y) 255)) Q) : zE X true l d 0 0 y_S_tapeInt 3 [some (12, 0, 0), some (0, 0, x), some (0, 0, y)] [] μ Q := by
  refine s_S_tapeInt_3 ⟨fun q => absurd q (by omega), fun _ => ?_⟩
  rw [ht]
  refine ⟨fun q => absurd q (by omega), fun _ => ⟨⟨h0, h1⟩, ?_⟩⟩
  have e : zup μ (0 + 89) t (zand (zshr x y) 255) 0 4 = t := by rw [zup_ne (by decide)]; exact ht
  rw [e, zw_of (x := t + 1) (by omega) (by omega), zw_of (x := y + -8) (by omega) (by omega)]
  exact h
theorem k_S_tapeInt {Q : zM → Prop} (ht : μ 0 4 = t) (h0 : 0 ≤ t) (h1 : t ≤ 396) (h : Q (ztape4 μ 0 4 89 t x)) : zCv X true l d 0 0 y_S_tapeInt [(12, 0, 0), (0, 0, x)] μ Q := by
  refine c_S_tapeInt (k_S_one (by decide) ht h0 (by omega) (k_S_one (y := 16) (by decide) zone_n (by omega) (by omega) (k_S_one (y := 8) (by decide) zone_n (by omega) (by omega) (k_S_one (y := 0) (by decide) zone_n (by omega) (by omega) ?_))))
  exact s_S_tapeInt_3 ⟨fun _ => h, fun q => absurd (by decide) q⟩
theorem k_M_one {y : Int} {Q : Option zV → zM → Prop} (hy : 0 ≤ y ∧ y ≤ 24) (ht : μ 1320 7 = t) (h0 : 0 ≤ t) (h1 : t < 400) (h : zE X true l d 0 0 y_M_four 3 [some (13, 0, 1320), some (0, 0, x), some (0, 0, y - 8)] [] (zone μ 1320 7 1325 t (zand (zshr x y) 255)) Q) : zE X true l d 0 0 y_M_four 3 [some (13, 0, 1320), some (0, 0, x), some (0, 0, y)] [] μ Q := by
  refine s_M_four_3 ⟨fun q => absurd q (by omega), fun _ => ?_⟩
  rw [ht]
  refine ⟨⟨h0, h1⟩, ?_⟩
  have e : zup μ (1320 + 5) t (zand (zshr x y) 255) 1320 7 = t := by rw [zup_ne (by decide)]; exact ht
  rw [e, zw_of (x := t + 1) (by omega) (by omega), zw_of (x := y + -8) (by omega) (by omega)]
  exact h
theorem k_M_four {Q : zM → Prop} (ht : μ 1320 7 = t) (h0 : 0 ≤ t) (h1 : t ≤ 396) (h : Q (ztape4 μ 1320 7 1325 t x)) : zCv X true l d 0 0 y_M_four [(13, 0, 1320), (0, 0, x)] μ Q := by
  refine c_M_four (k_M_one (by decide) ht h0 (by omega) (k_M_one (y := 16) (by decide) zone_n (by omega) (by omega) (k_M_one (y := 8) (by decide) zone_n (by omega) (by omega) (k_M_one (y := 0) (by decide) zone_n (by omega) (by omega) ?_))))
  exact s_M_four_3 ⟨fun _ => h, fun q => absurd (by decide) q⟩
def zfeed (μ : zM) (c f a t x1 x2 x3 x4 x5 : Int) : zM := ztape4 (ztape4 (ztape4 (ztape4 (ztape4 μ c f a t x1) c f a (t + 4) x2) c f a (t + 8) x3) c f a (t + 12) x4) c f a (t + 16) x5
variable {x1 x2 x3 x4 x5 : Int}
theorem ztape4_n' : ztape4 μ c f a t x c f = t + 4 := by rw [ztape4_n]; omega
theorem zfeed_n : zfeed μ c f a t x1 x2 x3 x4 x5 c f = t + 20 := by unfold zfeed; rw [ztape4_n']; omega
theorem zfeed_a (h : a ≠ c) : zfeed μ c f a t x1 x2 x3 x4 x5 a = ztp (ztp (ztp (ztp (ztp (μ a) t x1) (t + 4) x2) (t + 8) x3) (t + 12) x4) (t + 16) x5 := by
  unfold zfeed
  rw [ztape4_a h, ztape4_a h, ztape4_a h, ztape4_a h, ztape4_a h]
theorem zfeed_c (h : a ≠ c) {j : Int} (hj : j ≠ f) : zfeed μ c f a t x1 x2 x3 x4 x5 c j = μ c j := by
  unfold zfeed
  rw [ztape4_c h hj, ztape4_c h hj, ztape4_c h hj, ztape4_c h hj, ztape4_c h hj]
theorem zfeed_o {e : Int} (h1 : e ≠ c) (h2 : e ≠ a) : zfeed μ c f a t x1 x2 x3 x4 x5 e = μ e := by
  unfold zfeed
  rw [ztape4_o h1 h2, ztape4_o h1 h2, ztape4_o h1 h2, ztape4_o h1 h2, ztape4_o h1 h2]
theorem k_S_feed {Q : Int → zM → Prop} (hd : 3 ≤ d) (ht : μ 0 4 = t) (h0 : 0 ≤ t) (h : t ≤ 380 → Q (t + 20) (zfeed μ 0 4 89 t x1 x2 x3 x4 x5)) (hn : ¬ t ≤ 380 → Q (-1) μ) : zCi X true l d 0 0 y_S_feed [(12, 0, 0), (0, 0, x1), (0, 0, x2), (0, 0, x3), (0, 0, x4), (0, 0, x5)] μ Q := by
  refine c_S_feed (d1 := 2) (by omega) ?_
  rw [ht]
  refine ⟨fun q => k_S_tapeInt ht h0 (by omega) (k_S_tapeInt (t := t + 4) ztape4_n' (by omega) (by omega) (k_S_tapeInt (t := t + 8) (ztape4_n'.trans (by omega)) (by omega) (by omega) (k_S_tapeInt (t := t + 12) (ztape4_n'.trans (by omega)) (by omega) (by omega) (k_S_tapeInt (t := t + 16) (ztape4_n'.trans (by omega)) (by omega) (by omega) ?_)))), hn⟩
  have e := h q
  rw [← zfeed_n (μ := μ) (c := 0) (f := 4) (a := 89) (t := t) (x1 := x1) (x2 := x2) (x3 := x3) (x4 := x4) (x5 := x5)] at e
  exact e
theorem k_M_feed {Q : Int → zM → Prop} (hd : 3 ≤ d) (ht : μ 1320 7 = t) (h0 : 0 ≤ t) (h4 : t ≤ 400) (h : t ≤ 380 → Q (t + 20) (zfeed (zup μ 1320 0 0) 1320 7 1325 t x1 x2 x3 x4 x5)) (hn : ¬ t ≤ 380 → Q (-1) (zup μ 1320 0 0)) : zCi X true l d 0 0 y_M_feed [(13, 0, 1320), (0, 0, x1), (0, 0, x2), (0, 0, x3), (0, 0, x4), (0, 0, x5)] μ Q := by
  refine c_M_feed (d1 := 2) (by omega) ?_
  have e7 : zup μ 1320 0 0 1320 7 = t := by rw [zup_miss (by decide)]; exact ht
  rw [e7, zw_of (x := t + 20) (by omega) (by omega)]
  refine ⟨fun q => k_M_four e7 h0 (by omega) (k_M_four (t := t + 4) ztape4_n' (by omega) (by omega) (k_M_four (t := t + 8) (ztape4_n'.trans (by omega)) (by omega) (by omega) (k_M_four (t := t + 12) (ztape4_n'.trans (by omega)) (by omega) (by omega) (k_M_four (t := t + 16) (ztape4_n'.trans (by omega)) (by omega) (by omega) ?_)))), fun q => hn (by omega)⟩
  have e := h (by omega)
  rw [← zfeed_n (μ := zup μ 1320 0 0) (c := 1320) (f := 7) (a := 1325) (t := t) (x1 := x1) (x2 := x2) (x3 := x3) (x4 := x4) (x5 := x5)] at e
  exact e
theorem p_feed (hL : zLRok LR) (h : zInv LR μ) (hd : 3 ≤ d) (hQ : ∀ v ρ, zInv LR ρ → Q v v ρ) : zCi X true l d 0 0 y_S_feed [(12, 0, 0), (0, 0, x1), (0, 0, x2), (0, 0, x3), (0, 0, x4), (0, 0, x5)] μ (fun v ν => zCi X true l d 0 0 y_M_feed [(13, 0, 1320), (0, 0, x1), (0, 0, x2), (0, 0, x3), (0, 0, x4), (0, 0, x5)] ν (fun w ρ => Q v w ρ)) := by
  obtain ⟨t1, t2, t3⟩ := h.1
  obtain ⟨t, ht⟩ : ∃ t, μ 0 4 = t := ⟨_, rfl⟩
  refine k_S_feed hd ht (by omega) (fun q => k_M_feed (t := t) hd ?_ (by omega) (by omega) (fun _ => hQ _ _ ?_) (fun c => absurd q c)) (fun q => k_M_feed (t := t) hd (by omega) (by omega) (by omega) (fun c => absurd c q) (fun _ => hQ _ _ (h.thrown hL)))
  · rw [zfeed_o (by decide) (by decide)]; omega
  · refine h.tape hL ⟨?_, ?_, ?_⟩ ?_ (fun j hj => ?_) (fun j hj h0 => ?_) (fun b h1 h2 h3 h4 => ?_)
    · rw [zfeed_n, zfeed_o (by decide) (by decide), zup_ne (by decide), zfeed_n]
    · rw [zfeed_o (by decide) (by decide), zup_ne (by decide), zfeed_n]; omega
    · rw [zfeed_o (by decide) (by decide), zup_ne (by decide), zfeed_n]; omega
    · rw [zfeed_o (e := 89) (by decide) (by decide), zup_ne (by decide), zfeed_a (by decide), zfeed_a (by decide), zup_ne (by decide), zfeed_o (e := 1325) (by decide) (by decide)]
      exact ztp_ok (ztp_ok (ztp_ok (ztp_ok (ztp_ok h.2.1))))
    · rw [zfeed_o (by decide) (by decide), zup_ne (by decide), zfeed_c (by decide) hj]
    · rw [zfeed_c (by decide) hj, zup_miss (by omega), zfeed_o (by decide) (by decide)]
    · rw [zfeed_o h3 h4, zup_ne h3, zfeed_o h1 h2]
end

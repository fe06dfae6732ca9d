/-! row -/
theorem zor_of {a b : Int} : Int32.ofInt (zor a b) = Int32.ofInt a ||| Int32.ofInt b := Int32.ofInt_toInt _
theorem zshl_of {a b : Int} : Int32.ofInt (zshl a b) = Int32.ofInt a <<< (Int32.ofInt b &&& 31) := Int32.ofInt_toInt _
theorem zshl_bv (y : Int32) {k : Int} {n : Nat} (hn : ((Int32.ofInt k &&& 31).toBitVec.smod 32).toNat = n) : (y <<< (Int32.ofInt k &&& 31)).toBitVec = y.toBitVec <<< n := by
  rw [Int32.toBitVec_shiftLeft, BitVec.shiftLeft_eq', hn]
/-- four bytes: one after another, or each at its place -/
theorem zint4 (p q r s : Int) : zor (zshl (zor (zshl (zor (zshl (zor (zshl 0 8) p) 8) q) 8) r) 8) s = zor (zor (zor (zshl p 24) (zshl q 16)) (zshl r 8)) s := by
  have e : Int32.ofInt (zor (zshl (zor (zshl (zor (zshl (zor (zshl 0 8) p) 8) q) 8) r) 8) s) = Int32.ofInt (zor (zor (zor (zshl p 24) (zshl q 16)) (zshl r 8)) s) := by
    simp only [zor_of, zshl_of]
    apply Int32.toBitVec_inj.1
    simp only [Int32.toBitVec_or, zshl_bv _ (k := 8) (n := 8) (by decide), zshl_bv _ (k := 16) (n := 16) (by decide), zshl_bv _ (k := 24) (n := 24) (by decide), BitVec.shiftLeft_or_distrib]
    have z : (Int32.ofInt 0).toBitVec = 0#32 := by decide
    rw [z]
    simp only [BitVec.zero_shiftLeft, BitVec.zero_or, ← BitVec.shiftLeft_add]
  have := congrArg Int32.toInt e
  unfold zor at this ⊢
  simpa only [Int32.ofInt_toInt] using this
def zmany (μ : zM) (a : Int) (g : Nat → Int) (f : Nat → Int) : Nat → zM
  | 0 => μ
  | k + 1 => zup (zmany μ a g f k) a (g k) (f k)
def zrwm (ρ : Int → Int) (g : Nat → Int) (f : Nat → Int) : Nat → Int → Int
  | 0 => ρ
  | k + 1 => zrw (zrwm ρ g f k) (g k) (f k)
section
variable {LR : zM → Int → (Int → Int) → Prop} {μ : zM} {X : zX} {l : Launch} {d : Nat} {Q : Int → Int → zM → Prop}
theorem zmany_ne {a b : Int} {g f : Nat → Int} (h : b ≠ a) : ∀ k, zmany μ a g f k b = μ b
  | 0 => rfl
  | k + 1 => by
    show zup (zmany μ a g f k) a (g k) (f k) b = μ b
    rw [zup_ne h, zmany_ne h k]
theorem zmany_at {a : Int} {g f : Nat → Int} : ∀ k, zmany μ a g f k a = zrwm (μ a) g f k
  | 0 => rfl
  | k + 1 => by
    show zup (zmany μ a g f k) a (g k) (f k) a = _
    rw [zup_at, zmany_at k]
    rfl
theorem zup_comm {a i v b j w : Int} (h : ¬ (a = b ∧ i = j)) : zup (zup μ a i v) b j w = zup (zup μ b j w) a i v := by
  funext c k
  unfold zup
  by_cases h1 : c = b ∧ k = j
  · by_cases h2 : c = a ∧ k = i
    · exact absurd ⟨h2.1.symm.trans h1.1, h2.2.symm.trans h1.2⟩ h
    · simp only [if_pos h1, if_neg h2]
  · simp only [if_neg h1]
/-- the four bytes of the tape at 4 g as a number, 0 unless 0 .. 99 -/
def zval (τ : Int → Int) (g : Int) : Int := zor (zor (zor (zshl (τ (4 * g)) 24) (zshl (τ (4 * g + 1)) 16)) (zshl (τ (4 * g + 2)) 8)) (τ (4 * g + 3))
def zsz (τ : Int → Int) (g : Int) : Int := if 0 ≤ zval τ g ∧ zval τ g ≤ 99 then zval τ g else 0
theorem zsz_ok {τ : Int → Int} {g : Int} : 0 ≤ zsz τ g ∧ zsz τ g ≤ 99 := by
  unfold zsz
  split <;> omega
theorem k_S_tapedInt {g : Int} {Q : Int → zM → Prop} (h0 : 0 ≤ g) (h1 : g < 100) (h : Q (zval (μ 89) g) μ) : zCi X true l d 0 0 y_S_tapedInt [(12, 0, 0), (0, 0, 4 * g)] μ Q := by
  refine c_S_tapedInt ?_
  have st : ∀ {y z : Int}, 4 * g ≤ y → y < 4 * g + 4 → zE X true l d 0 0 y_S_tapedInt 4 [some (12, 0, 0), some (0, 0, 4 * g), some (0, 0, zor (zshl z 8) (μ 89 y)), some (0, 0, y + 1)] [] μ (zri Q) → zE X true l d 0 0 y_S_tapedInt 4 [some (12, 0, 0), some (0, 0, 4 * g), some (0, 0, z), some (0, 0, y)] [] μ (zri Q) := fun {y z} a b k => by
    refine s_S_tapedInt_4 ?_
    rw [zw_of (x := 4 * g + 4) (by omega) (by omega), zw_of (x := y + 1) (by omega) (by omega)]
    exact ⟨fun q => absurd q (by omega), fun _ => ⟨fun q => absurd q (by omega), fun _ => ⟨⟨by omega, by omega⟩, k⟩⟩⟩
  refine st (by omega) (by omega) (st (by omega) (by omega) (st (by omega) (by omega) (st (by omega) (by omega) ?_)))
  refine s_S_tapedInt_4 ?_
  rw [zw_of (x := 4 * g + 4) (by omega) (by omega)]
  refine ⟨fun _ => ?_, fun q => absurd (by omega) q⟩
  rw [zint4, show 4 * g + 1 + 1 = 4 * g + 2 by omega, show 4 * g + 2 + 1 = 4 * g + 3 by omega]
  exact h
theorem zdiv4 : ∀ t : Nat, t < 49 → zdivi t 4 = ((t / 4 : Nat) : Int) := by decide +kernel
theorem k_S_row {t : Nat} {Q : Int → zM → Prop} (hd : 3 ≤ d) (ht : μ 0 4 = t) (h1 : 1 ≤ t → t ≤ 48 → Q ((t / 4 : Nat) : Int) (sok (zmany (zup μ 0 4 0) 8 (fun i => (i : Int)) (fun i => zsz (μ 89) i) (t / 4)))) (h0 : ¬ (1 ≤ t ∧ t ≤ 48) → Q (-6) (sref (zup μ 0 4 0) (-6) 3)) : zCi X true l d 0 0 y_S_row [(12, 0, 0)] μ Q := by
  refine c_S_row (d1 := 2) (by omega) ?_
  rw [ht]
  refine k_S_within (fun p1 p2 => ⟨fun _ => ?_, fun c => absurd c (by decide)⟩) (fun p => ⟨fun c => absurd rfl c, fun _ => k_S_refuse6 (h0 (by omega))⟩)
  rw [zdiv4 t (by omega)]
  have key : ∀ m i : Nat, i + m = t / 4 → zE X true l d 0 0 y_S_row 33 [some (12, 0, 0), none, some (0, 0, ((t / 4 : Nat) : Int)), some (0, 0, (i : Int)), none] [] (zmany (zup μ 0 4 0) 8 (fun i => (i : Int)) (fun i => zsz (μ 89) i) i) (zri Q) := by
    intro m
    induction m with
    | zero =>
      intro i hi
      have : i = t / 4 := by omega
      subst this
      exact s_S_row_33 (d1 := 2) (by omega) ⟨fun _ => k_S_allow (h1 (by omega) (by omega)), fun q => absurd (by omega) q⟩
    | succ m ih =>
      intro i hi
      refine s_S_row_33 (d1 := 2) (by omega) ⟨fun q => absurd q (by omega), fun _ => ⟨fun q => absurd q (by omega), fun _ => ?_⟩⟩
      rw [zw_of (x := 4 * (i : Int)) (by omega) (by omega)]
      refine k_S_tapedInt (by omega) (by omega) ?_
      have e89 : zmany (zup μ 0 4 0) 8 (fun i => (i : Int)) (fun i => zsz (μ 89) i) i 89 = μ 89 := by
        rw [zmany_ne (by decide), zup_ne (by decide)]
      rw [e89, zw_of (x := (i : Int) + 1) (by omega) (by omega)]
      have nx := ih (i + 1) (by omega)
      refine k_S_within (fun q1 q2 => ⟨⟨by omega, by omega⟩, ?_⟩) (fun q => ⟨⟨by omega, by omega⟩, ?_⟩)
      · have e : zsz (μ 89) i = zval (μ 89) i := if_pos ⟨q1, q2⟩
        unfold zmany at nx
        simp only [e] at nx
        exact nx
      · have e : zsz (μ 89) i = 0 := if_neg q
        unfold zmany at nx
        simp only [e] at nx
        exact nx
  exact key (t / 4) 0 (by omega)
theorem k_M_row {t : Nat} {Q : Int → zM → Prop} (hd : 3 ≤ d) (ht : μ 1320 7 = t) (h1 : 1 ≤ t → t ≤ 48 → Q ((t / 4 : Nat) : Int) (mok (zmany (zup (zup μ 1320 0 0) 1320 7 0) 1322 (fun i => 200 + (i : Int)) (fun i => zsz (μ 1325) i) (t / 4)))) (h0 : ¬ (1 ≤ t ∧ t ≤ 48) → Q (-6) (mref (zup (zup μ 1320 0 0) 1320 7 0) (-6))) : zCi X true l d 0 0 y_M_row [(13, 0, 1320)] μ Q := by
  refine c_M_row (d1 := 2) (by omega) ?_
  have e7 : zup μ 1320 0 0 1320 7 = t := by rw [zup_miss (by decide)]; exact ht
  rw [e7]
  refine ⟨fun q => k_M_telln (by decide) (h0 (by omega)), fun _ => ⟨fun _ => ?_, fun q => k_M_telln (by decide) (h0 (by omega))⟩⟩
  rw [zdiv4 t (by omega)]
  have key : ∀ m i : Nat, i + m = t / 4 → zE X true l d 0 0 y_M_row 38 [some (13, 0, 1320), none, some (0, 0, ((t / 4 : Nat) : Int)), some (0, 0, (i : Int)), none] [] (zmany (zup (zup μ 1320 0 0) 1320 7 0) 1322 (fun i => 200 + (i : Int)) (fun i => zsz (μ 1325) i) i) (zri Q) := by
    intro m
    induction m with
    | zero =>
      intro i hi
      have : i = t / 4 := by omega
      subst this
      exact s_M_row_38 (d1 := 2) (by omega) ⟨fun _ => k_M_tellp (by omega) (h1 (by omega) (by omega)), fun q => absurd (by omega) q⟩
    | succ m ih =>
      intro i hi
      refine s_M_row_38 (d1 := 2) (by omega) ⟨fun q => absurd q (by omega), fun _ => ?_⟩
      have e25 : zmany (zup (zup μ 1320 0 0) 1320 7 0) 1322 (fun i => 200 + (i : Int)) (fun i => zsz (μ 1325) i) i (1320 + 5) = μ 1325 := by
        rw [zmany_ne (by decide), zup_ne (by decide), zup_ne (by decide)]
        rfl
      rw [e25, zw_of (x := 4 * (i : Int)) (by omega) (by omega), zw_of (x := 4 * (i : Int) + 1) (by omega) (by omega), zw_of (x := 4 * (i : Int) + 2) (by omega) (by omega), zw_of (x := 4 * (i : Int) + 3) (by omega) (by omega), zw_of (x := (i : Int) + 1) (by omega) (by omega), zw_of (x := 200 + (i : Int)) (by omega) (by omega)]
      have nx := ih (i + 1) (by omega)
      refine ⟨⟨by omega, by omega⟩, ⟨by omega, by omega⟩, ⟨by omega, by omega⟩, ⟨by omega, by omega⟩, ?_⟩
      refine k_M_in (fun q1 q2 => ⟨⟨by omega, by omega⟩, ?_⟩) (fun q => ⟨⟨by omega, by omega⟩, ?_⟩)
      · have e : zsz (μ 1325) i = zval (μ 1325) i := if_pos ⟨q1, q2⟩
        unfold zmany at nx
        simp only [e] at nx
        exact nx
      · have e : zsz (μ 1325) i = 0 := if_neg q
        unfold zmany at nx
        simp only [e] at nx
        exact nx
  exact key (t / 4) 0 (by omega)
theorem zRoom.sizes (hL : zLRok LR) {ρ : Int → Int} (h : zRoom LR μ 1 ρ) {f : Nat → Int} (hf : ∀ i, 0 ≤ f i ∧ f i ≤ 99) : ∀ k, k ≤ 12 → zRoom LR (zmany μ 8 (fun i => (i : Int)) f k) 1 (zrwm ρ (fun i => 200 + (i : Int)) f k)
  | 0, _ => h
  | k + 1, hk => by
    have ih := zRoom.sizes hL h hf k (by omega)
    have := hf k
    have hB : zRB (zrw (zrwm ρ (fun i => 200 + (i : Int)) f k) ((200 + k : Nat) : Int) (f k)) := ih.2.1.up (by omega)
    exact ih.up hL (k := 200 + k) (v := f k) (a := 8) (s := k) (by unfold zvl; rw [zl_size k (by omega)]; show (7 : Nat) < 58; omega) (zU_free (by omega)) (by omega) (by rw [zl_size k (by omega)]; rfl) (by rw [zl_size k (by omega)]) hB
theorem zmany_congr {a : Int} {g f f' : Nat → Int} : ∀ k, (∀ i, i < k → f i = f' i) → zmany μ a g f k = zmany μ a g f' k
  | 0, _ => rfl
  | k + 1, h => by
    unfold zmany
    rw [zmany_congr k (fun i hi => h i (by omega)), h k (by omega)]
theorem p_row (hL : zLRok LR) (h : zInv LR μ) (hd : 3 ≤ d) (hQ : ∀ v ρ, zInv LR ρ → Q v v ρ) : zCi X true l d 0 0 y_S_row [(12, 0, 0)] μ (fun v ν => zCi X true l d 0 0 y_M_row [(13, 0, 1320)] ν (fun w ρ => Q v w ρ)) := by
  obtain ⟨t1, t2, t3⟩ := h.1
  obtain ⟨t, ht⟩ : ∃ t : Nat, μ 0 4 = t := ⟨(μ 0 4).toNat, by omega⟩
  have hT : zInv LR (zup (zup μ 0 4 0) 1320 7 0) := by
    refine h.tape hL ⟨?_, ?_, ?_⟩ ?_ (fun j hj => ?_) (fun j hj h0 => ?_) (fun b h1 h2 h3 h4 => ?_)
    · rw [zup_hit, zup_ne (by decide), zup_hit]
    · rw [zup_ne (by decide), zup_hit]; omega
    · rw [zup_ne (by decide), zup_hit]; omega
    · rw [zup_ne (by decide), zup_ne (by decide), zup_ne (by decide), zup_ne (by decide)]; exact h.2.1
    · rw [zup_ne (by decide), zup_miss (by omega)]
    · rw [zup_miss (by omega), zup_ne (by decide)]
    · rw [zup_ne h3, zup_ne h1]
  have e1 : sref (zup μ 0 4 0) (-6) 3 1320 = μ 1320 := by
    unfold sref
    rw [zup_ne (by decide), zup_ne (by decide), zup_ne (by decide)]
  have er : ∀ (f : Nat → Int) k b, b ≠ 0 → b ≠ 8 → sok (zmany (zup μ 0 4 0) 8 (fun i => (i : Int)) f k) b = μ b := fun f k b h1 h2 => by
    unfold sok
    rw [zup_ne h1, zmany_ne h2, zup_ne h1]
  refine k_S_row hd ht (fun a1 a2 => k_M_row (t := t) hd (by rw [er _ _ _ (by decide) (by decide)]; omega) (fun _ _ => ?_) (fun c => absurd ⟨a1, a2⟩ c)) (fun c => k_M_row (t := t) hd (by rw [e1]; omega) (fun a1 a2 => absurd ⟨a1, a2⟩ c) (fun _ => hQ _ _ ?_))
  · rw [er _ _ 1325 (by decide) (by decide)]
    rw [zmany_congr (f := fun i => zsz (μ 1325) i) (f' := fun i => zsz (μ 89) i) (t / 4) (fun i hi => by
      have k0 := (h.2.1 (4 * i) (by omega) (by omega)).1
      have k1 := (h.2.1 (4 * i + 1) (by omega) (by omega)).1
      have k2 := (h.2.1 (4 * i + 2) (by omega) (by omega)).1
      have k3 := (h.2.1 (4 * i + 3) (by omega) (by omega)).1
      unfold zsz zval
      rw [k0, k1, k2, k3])]
    generalize hF : (fun i : Nat => zsz (μ 89) i) = F
    have hf : ∀ i, 0 ≤ F i ∧ F i ≤ 99 := fun i => by rw [← hF]; exact zsz_ok
    have hR := zRoom.sizes hL hT.2.2.2.2.2.1 hf (t / 4) (by omega)
    refine hQ _ _ (hT.room hL (fun b hb => zmany_ne (by omega) _) hR (fun b q1 q2 q3 => ?_) (fun j hj => ?_) (fun j q1 q2 => ?_) ?_ ?_)
    · unfold mok sok
      rw [zup_ne q2, zmany_ne q3, zup_ne q2, zup_ne q2, zup_ne q1]
      by_cases c8 : b = 8
      · subst c8
        rw [zmany_at, zmany_at, zup_ne (by decide), zup_ne (by decide), zup_ne (by decide)]
      · rw [zmany_ne c8, zmany_ne c8, zup_ne q2]
    · unfold mok sok
      rw [zup_ne (by decide), zmany_ne (by decide), zup_ne (by decide), zup_ne (by decide), zup_miss (by omega), zmany_ne (by decide), zup_ne (b := 0) (a := 1320) (by decide)]
    · unfold mok sok
      rw [zup_miss (by omega), zmany_ne (by decide)]
      by_cases c7 : j = 7
      · subst c7
        rw [zup_hit, zup_hit]
      · rw [zup_miss (by omega), zup_miss (by omega), zup_miss (by omega), zmany_ne (by decide), zup_miss (a := 1320) (i := 7) (by omega)]
    · unfold mok sok
      rw [zup_hit, zup_ne (by decide), zmany_ne (by decide), zup_ne (by decide), zup_ne (by decide), zup_hit]
    · unfold mok
      rw [zup_ne (by decide), zmany_at, zup_ne (by decide), zup_ne (by decide), er _ _ 1322 (by decide) (by decide), zup_ne (by decide), zup_ne (by decide)]
  · have hr := hT.ref hL (e := -6) (k := 3) (by omega)
    have e : zup (sref (zup (zup μ 0 4 0) 1320 7 0) (-6) 3) 1320 0 0 = zup (zup (sref (zup μ 0 4 0) (-6) 3) 1320 0 0) 1320 7 0 := by
      unfold sref
      rw [zup_comm (a := 1320) (i := 0) (b := 1320) (j := 7) (by decide), zup_comm (a := 103) (i := 3) (b := 1320) (j := 7) (by decide), zup_comm (a := 0) (i := 10) (b := 1320) (j := 7) (by decide), zup_ne (b := 103) (a := 1320) (by decide)]
    rw [← e]
    exact hr
end

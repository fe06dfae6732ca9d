/-! differs -/
theorem zfold_bd {f : Nat → Int → Int} : ∀ k : Nat, (∀ (i : Nat) (a : Int), i < k → 0 ≤ a → a ≤ i → 0 ≤ f i a ∧ f i a ≤ a + 1) → 0 ≤ zfold f k ∧ zfold f k ≤ k
  | 0, _ => ⟨Int.le_refl 0, Int.le_refl 0⟩
  | k + 1, h => by
    have ih := zfold_bd k (fun i a hi => h i a (by omega))
    have := h k (zfold f k) (by omega) ih.1 ih.2
    show 0 ≤ f k (zfold f k) ∧ f k (zfold f k) ≤ ((k + 1 : Nat) : Int)
    omega
def zab (x : Int) : Int := if 0 ≤ x then x else -x
/-- what one thing does to (best, upper, lower) -/
def zdst (a b c e t : Int) (s : Int × Int × Int) : Int × Int × Int := if a * b = 0 then s else if s.1 = -1 then (t, zab (c * b - e * a), a * b) else if zab (c * b - e * a) * s.2.2 ≤ s.2.1 * (a * b) then s else (t, zab (c * b - e * a), a * b)
theorem zmul_bd {a b A B : Int} (h1 : 0 ≤ a) (h2 : a ≤ A) (h3 : 0 ≤ b) (h4 : b ≤ B) : 0 ≤ a * b ∧ a * b ≤ A * B := ⟨Int.mul_nonneg h1 h3, Int.mul_le_mul h2 h4 h3 (by omega)⟩
theorem zab_w {a b c e : Int} (ha : 0 ≤ a ∧ a ≤ 40) (hb : 0 ≤ b ∧ b ≤ 40) (hc : 0 ≤ c ∧ c ≤ 40) (he : 0 ≤ e ∧ e ≤ 40) : (if 0 ≤ zw (zw (c * b) - zw (e * a)) then zw (zw (c * b) - zw (e * a)) else zw (-(zw (zw (c * b) - zw (e * a))))) = zab (c * b - e * a) ∧ 0 ≤ zab (c * b - e * a) ∧ zab (c * b - e * a) ≤ 1600 := by
  have p1 := zmul_bd hc.1 hc.2 hb.1 hb.2
  have p2 := zmul_bd he.1 he.2 ha.1 ha.2
  generalize c * b = p at *
  generalize e * a = q at *
  rw [zw_of (x := p) (by omega) (by omega), zw_of (x := q) (by omega) (by omega), zw_of (x := p - q) (by omega) (by omega), zw_of (x := -(p - q)) (by omega) (by omega)]
  unfold zab
  refine ⟨rfl, ?_, ?_⟩ <;> split <;> omega
theorem zdst_ok {a b c e t : Int} {s : Int × Int × Int} (ha : 0 ≤ a ∧ a ≤ 40) (hb : 0 ≤ b ∧ b ≤ 40) (hc : 0 ≤ c ∧ c ≤ 40) (he : 0 ≤ e ∧ e ≤ 40) (h : (0 ≤ s.2.1 ∧ s.2.1 ≤ 1600) ∧ 0 ≤ s.2.2 ∧ s.2.2 ≤ 1600) : (0 ≤ (zdst a b c e t s).2.1 ∧ (zdst a b c e t s).2.1 ≤ 1600) ∧ 0 ≤ (zdst a b c e t s).2.2 ∧ (zdst a b c e t s).2.2 ≤ 1600 := by
  have p := zab_w ha hb hc he
  have q := zmul_bd ha.1 ha.2 hb.1 hb.2
  unfold zdst
  split
  · exact h
  · split
    · exact ⟨p.2, q⟩
    · split
      · exact h
      · exact ⟨p.2, q⟩
section
variable {LR : zM → Int → (Int → Int) → Prop} {μ : zM} {X : zX} {l : Launch} {d : Nat} {Q : Int → Int → zM → Prop}
theorem k_S_differs9 {v : Int → Int → Int → Int} {Q : Option zV → zM → Prop} (hd : 3 ≤ d) (hv : ∀ x y z, z = 0 ∨ z = 1 → 0 ≤ v x y z ∧ v x y z ≤ 40) (hc : ∀ (d : Nat) (x y z : Int) (Q : Int → zM → Prop), Q (v x y z) μ → zCi X true l d 0 0 y_S_streetsBy [(12, 0, 0), (0, 0, x), (0, 0, y), (0, 0, z)] μ Q) {t : Int} {s : Int × Int × Int} (ht : 0 ≤ t ∧ t < 3) (hs : (0 ≤ s.2.1 ∧ s.2.1 ≤ 1600) ∧ 0 ≤ s.2.2 ∧ s.2.2 ≤ 1600)
    (h : ∀ s', s' = zdst (v t 1 0) (v t 0 0) (v t 1 1) (v t 0 1) t s → zE X true l d 0 0 y_S_differs 9 [some (12, 0, 0), some (0, 0, s'.1), some (0, 0, s'.2.1), some (0, 0, s'.2.2), some (0, 0, t + 1), none, none, none, none] [] μ Q) : zE X true l d 0 0 y_S_differs 9 [some (12, 0, 0), some (0, 0, s.1), some (0, 0, s.2.1), some (0, 0, s.2.2), some (0, 0, t), none, none, none, none] [] μ Q := by
  refine s_S_differs_9 (d1 := 2) (by omega) ⟨fun q => absurd q (by omega), fun _ => hc _ _ _ _ _ (hc _ _ _ _ _ (hc _ _ _ _ _ (hc _ _ _ _ _ ?_)))⟩
  have a1 := hv t 1 0 (by omega)
  have a2 := hv t 0 0 (by omega)
  have a3 := hv t 1 1 (by omega)
  have a4 := hv t 0 1 (by omega)
  have h := h _ rfl
  generalize v t 1 0 = a at *
  generalize v t 0 0 = b at *
  generalize v t 1 1 = c at *
  generalize v t 0 1 = e at *
  obtain ⟨w1, w2, w3⟩ := zab_w a1 a2 a3 a4
  have q := zmul_bd a1.1 a1.2 a2.1 a2.2
  have q1 := zmul_bd w2 w3 hs.2.1 hs.2.2
  have q2 := zmul_bd hs.1.1 hs.1.2 q.1 q.2
  rw [w1, zw_of (x := a * b) (by omega) (by omega), zw_of (x := t + 1) (by omega) (by omega), zw_of (x := zab (c * b - e * a) * s.2.2) (by omega) (by omega), zw_of (x := s.2.1 * (a * b)) (by omega) (by omega)]
  unfold zdst at h
  refine ⟨fun c0 => ?_, fun c0 => ⟨fun c1 => ?_, fun c1 => ⟨fun c2 => ?_, fun c2 => ?_⟩⟩⟩
  · rw [if_pos c0] at h; exact h
  · rw [if_neg c0, if_pos c1] at h; exact h
  · rw [if_neg c0, if_neg c1, if_pos c2] at h; exact h
  · rw [if_neg c0, if_neg c1, if_neg c2] at h; exact h
theorem k_M_differs14 {v : Int → Int → Int → Int} {Q : Option zV → zM → Prop} (hd : 3 ≤ d) (hv : ∀ x y z, z = 0 ∨ z = 1 → 0 ≤ v x y z ∧ v x y z ≤ 40) (hc : ∀ (d : Nat) (x y z : Int) (Q : Int → zM → Prop), Q (v x y z) μ → zCi X true l d 0 0 y_M_streetsOf [(13, 0, 1320), (0, 0, x), (0, 0, y), (0, 0, z)] μ Q) {t : Int} {s : Int × Int × Int} (ht : 0 ≤ t ∧ t < 3) (hs : (0 ≤ s.2.1 ∧ s.2.1 ≤ 1600) ∧ 0 ≤ s.2.2 ∧ s.2.2 ≤ 1600)
    (h : ∀ s', s' = zdst (v t 1 0) (v t 0 0) (v t 1 1) (v t 0 1) t s → zE X true l d 0 0 y_M_differs 14 [some (13, 0, 1320), some (0, 0, s'.1), some (0, 0, s'.2.1), some (0, 0, s'.2.2), some (0, 0, t + 1), none, none, none] [] μ Q) : zE X true l d 0 0 y_M_differs 14 [some (13, 0, 1320), some (0, 0, s.1), some (0, 0, s.2.1), some (0, 0, s.2.2), some (0, 0, t), none, none, none] [] μ Q := by
  refine s_M_differs_14 (d1 := 2) (by omega) ⟨fun q => absurd q (by omega), fun _ => hc _ _ _ _ _ (hc _ _ _ _ _ ?_)⟩
  have a1 := hv t 1 0 (by omega)
  have a2 := hv t 0 0 (by omega)
  have a3 := hv t 1 1 (by omega)
  have a4 := hv t 0 1 (by omega)
  have h := h _ rfl
  obtain ⟨w1, w2, w3⟩ := zab_w a1 a2 a3 a4
  have q := zmul_bd a1.1 a1.2 a2.1 a2.2
  have q1 := zmul_bd w2 w3 hs.2.1 hs.2.2
  have q2 := zmul_bd hs.1.1 hs.1.2 q.1 q.2
  have q3 := zmul_bd hs.1.1 hs.1.2 a1.1 a1.2
  rw [zw_of (x := t + 1) (by omega) (by omega)]
  unfold zdst at h
  have z : v t 1 0 ≤ 0 ∨ v t 0 0 ≤ 0 → v t 1 0 * v t 0 0 = 0 := fun o => by
    rcases o with o | o
    · rw [show v t 1 0 = 0 by omega, Int.zero_mul]
    · rw [show v t 0 0 = 0 by omega, Int.mul_zero]
  refine ⟨fun c0 => ?_, fun c0 => ⟨fun c1 => ?_, fun c1 => hc _ _ _ _ _ (hc _ _ _ _ _ ?_)⟩⟩
  · rw [if_pos (z (Or.inl c0))] at h; exact h
  · rw [if_pos (z (Or.inr c1))] at h; exact h
  · have nz : ¬ v t 1 0 * v t 0 0 = 0 := fun o => by
      rcases Int.mul_eq_zero.1 o with o | o <;> omega
    rw [if_neg nz] at h
    rw [w1, zw_of (x := v t 1 0 * v t 0 0) (by omega) (by omega), zw_of (x := zab (v t 1 1 * v t 0 0 - v t 0 1 * v t 1 0) * s.2.2) (by omega) (by omega), zw_of (x := s.2.1 * v t 1 0) (by omega) (by omega), Int.mul_assoc, zw_of (x := s.2.1 * (v t 1 0 * v t 0 0)) (by omega) (by omega)]
    refine ⟨fun c1 => ?_, fun c1 => ⟨fun c2 => ?_, fun c2 => ?_⟩⟩
    · rw [if_pos c1] at h; exact h
    · rw [if_neg c1, if_pos c2] at h; exact h
    · rw [if_neg c1, if_neg c2] at h; exact h
def zcnt (μ : zM) (n : Nat) (x y z : Int) : Int := zfold (fun i a => if zand (zshr (μ 16 i) x) 1 = y then (if z = 0 then zw (a + 1) else zw (a + (if ¬ z = 1 then μ 17 i else μ 18 i))) else a) n
theorem zInv.cnt (h : zInv LR μ) {n : Nat} (hn : μ 1322 5 = n) (x y z : Int) (hz : z = 0 ∨ z = 1) : 0 ≤ zcnt μ n x y z ∧ zcnt μ n x y z ≤ 40 := by
  obtain ⟨g1, g2, g3, g4⟩ := h.street
  have hb := h.2.2.2.2.2.1.2.1.2.2.2.2.2.2.2.2.2.2.2.2.2.2.2.2.1
  have := zfold_bd (f := fun i a => if zand (zshr (μ 16 i) x) 1 = y then (if z = 0 then zw (a + 1) else zw (a + (if ¬ z = 1 then μ 17 i else μ 18 i))) else a) n (fun i a hi h0 h1 => by
    obtain ⟨e1, e2, e3⟩ := g4 i (by omega)
    have b := hb (240 + 3 * (i : Int) + 2) (by omega) (by omega)
    rw [if_neg (by omega), if_neg (by omega)] at b
    rw [← e3] at b
    split
    · rcases hz with rfl | rfl
      · rw [if_pos rfl, zw_of (by omega) (by omega)]; omega
      · rw [if_neg (by decide), if_neg (by decide), zw_of (by omega) (by omega)]; omega
    · omega)
  unfold zcnt
  omega
theorem p_differs (hL : zLRok LR) (h : zInv LR μ) (hd : 3 ≤ d) (hQ : ∀ v ρ, zInv LR ρ → Q v v ρ) : zCi X true l d 0 0 y_S_differs [(12, 0, 0)] μ (fun v ν => zCi X true l d 0 0 y_M_differs [(13, 0, 1320)] ν (fun w ρ => Q v w ρ)) := by
  have ht := h.thrown hL
  have er : zup μ 1320 0 0 1322 = μ 1322 := zup_ne (by decide)
  obtain ⟨g1, g2, g3, g4⟩ := h.street
  obtain ⟨n, hn⟩ : ∃ c : Nat, μ 1322 5 = c := ⟨(μ 1322 5).toNat, by omega⟩
  have hv := h.cnt hn
  have cS : ∀ (d : Nat) (x y z : Int) (Q : Int → zM → Prop), Q (zcnt μ n x y z) μ → zCi X true l d 0 0 y_S_streetsBy [(12, 0, 0), (0, 0, x), (0, 0, y), (0, 0, z)] μ Q := fun d x y z Q k => k_S_streetsBy (g1.trans hn) (by omega) k
  have cM : ∀ (d : Nat) (x y z : Int) (Q : Int → zM → Prop), Q (zcnt μ n x y z) (zup μ 1320 0 0) → zCi X true l d 0 0 y_M_streetsOf [(13, 0, 1320), (0, 0, x), (0, 0, y), (0, 0, z)] (zup μ 1320 0 0) Q := fun d x y z Q k => k_M_streetsOf (n := n) (by rw [er]; exact hn) (by omega) (by rw [er, h.streets hn]; exact k)
  refine c_S_differs (k_S_differs9 (s := (-1, 0, 1)) hd hv cS (by decide) (by decide) (fun s1 e1 => ?_))
  have b1 : (0 ≤ s1.2.1 ∧ s1.2.1 ≤ 1600) ∧ 0 ≤ s1.2.2 ∧ s1.2.2 ≤ 1600 := by rw [e1]; exact zdst_ok (hv _ _ _ (by decide)) (hv _ _ _ (by decide)) (hv _ _ _ (by decide)) (hv _ _ _ (by decide)) (by decide)
  refine k_S_differs9 (t := 0 + 1) hd hv cS (by decide) b1 (fun s2 e2 => ?_)
  have b2 : (0 ≤ s2.2.1 ∧ s2.2.1 ≤ 1600) ∧ 0 ≤ s2.2.2 ∧ s2.2.2 ≤ 1600 := by rw [e2]; exact zdst_ok (hv _ _ _ (by decide)) (hv _ _ _ (by decide)) (hv _ _ _ (by decide)) (hv _ _ _ (by decide)) b1
  refine k_S_differs9 (t := 0 + 1 + 1) hd hv cS (by decide) b2 (fun s3 e3 => ?_)
  refine s_S_differs_9 (d1 := 2) (by omega) ⟨fun _ => ?_, fun q => absurd (by decide) q⟩
  refine c_M_differs (k_M_differs14 (s := (-1, 0, 1)) hd hv cM (by decide) (by decide) (fun s1' e1' => ?_))
  rw [← e1] at e1'
  subst e1'
  refine k_M_differs14 (t := 0 + 1) hd hv cM (by decide) b1 (fun s2' e2' => ?_)
  rw [← e2] at e2'
  subst e2'
  refine k_M_differs14 (t := 0 + 1 + 1) hd hv cM (by decide) b2 (fun s3' e3' => ?_)
  rw [← e3] at e3'
  subst e3'
  exact s_M_differs_14 (d1 := 2) (by omega) ⟨fun _ => hQ _ _ ht, fun q => absurd (by decide) q⟩
end

/-! law: the reference's expression and clause -/
section
variable {X : zX} {l : Launch} {d : Nat} {μ : zM} {T : Int → Int} {L : Nat}
theorem k_mExpr {t : Int} {md q lv c q' lv' : Nat} {r : Option zSem} {Q : zM → Prop} (hm : (md = 3 ∧ t = 0) ∨ (md = 8 ∧ t = 1)) (hd : 10 ≤ d) (ht : zTm μ T L q) (hb : μ 1320 13 = 0) (hc : μ 1320 16 = c) (hcq : c ≤ q) (hl : μ 1320 19 = lv) (l50 : lv ≤ 50) (e : zPp T L 5000 md 0 q lv zK0 = some (q', lv', r))
    (h0 : r = none → ∀ ν, zFw μ ν → ν 1320 13 = 1 → ν 1320 12 = q' → (∃ c : Nat, ν 1320 16 = c ∧ c ≤ 400) → Q ν)
    (h1 : ∀ w, r = some w → ∀ (ν : zM) (c2 D : Nat), zFm μ ν → zTm ν T L q' → ν 1320 13 = 0 → ν 1320 16 = c2 → ν 1320 19 = lv' → c < c2 → c2 ≤ q' → (∀ j : Int, j < c → ν 1327 j = μ 1327 j ∧ ν 1328 j = μ 1328 j) → zGd md w → 1 ≤ D → D + lv ≤ lv' → zTl (fun i => zMk (ν 1327 i)) (fun i => zMa (ν 1327 i) (ν 1328 i)) c c2 w D → Q ν) : zCv X true l d 0 0 y_M_readExpression [(13, 0, 1320), (0, 0, t)] μ Q := by
  have hqL := ht.2.2.2.2.2.2.1
  have hL4 := ht.2.2.2.2.2.2.2
  refine c_M_readExpression (a0 := 1320) ?_
  have S0 : zSm μ (zup (zup μ 1320 22 0) 1320 23 0) T L q c 0 0 lv (μ 1327) (μ 1328) (μ 1329) (μ 1330) := by
    refine ⟨(zFm.refl.up (by simp)).up (by simp), (ht.up (by simp)).up (by simp), ?_, ?_, ?_, ?_, ?_, ?_, ?_, ?_, ?_⟩
    · rw [zup_miss (by decide), zup_miss (by decide)]; exact hb
    · rw [zup_miss (by decide), zup_miss (by decide)]; exact hc
    · rw [zup_miss (by decide), zup_hit]; rfl
    · rw [zup_hit]; rfl
    · rw [zup_miss (by decide), zup_miss (by decide)]; exact hl
    · rw [zup_ne (by decide), zup_ne (by decide)]
    · rw [zup_ne (by decide), zup_ne (by decide)]
    · rw [zup_ne (by decide), zup_ne (by decide)]
    · rw [zup_ne (by decide), zup_ne (by decide)]
  obtain ⟨_, _, m3, _, _, m8, _⟩ := m_all (X := X) (l := l) (μ0 := μ) (T := T) (t := t) (Q := Q) hd hL4 5000
  have far := zPp_far _ _ _ _ _ _ _ _ _ (by rcases hm with z | z <;> omega) hqL l50 e
  have nB : ∀ j : Int, 0 ≤ j → j < ((0 : Nat) : Int) → 0 ≤ μ 1330 j ∧ μ 1330 j < 400 := fun j a b => by omega
  have hf : r = none → zRf X l d μ t Q q' := fun hr => rx_fail hd (fun ν f b1 b2 b3 => h0 hr ν f b1 b2 b3)
  have over : ∀ w, r = some w → ∀ (c' m : Nat) (O' A' P' B' : Int → Int), zPt md (zbm md) c 0 lv (μ 1327) (μ 1328) (μ 1329) (μ 1330) q' c' m lv' O' A' P' B' w → zRx X l d μ T L t Q 4 q' c' (0 + m) 0 lv' O' A' P' B' := fun w hr c' m O' A' P' B' p => by
    rw [Nat.zero_add]
    have v := p.vd (by omega) nB
    rw [Nat.zero_add] at v
    have p3 := p.2.2.1
    have vc : (zVp P' B' m 0 (O', A', c')).2.2 ≤ c' + m := (zVp_c (P := P') (B := B') (x := (O', A', c')) m 0).2
    refine rx_over hd v (fun j a b => ?_) (fun ν s => ?_)
    · have := (p.2.1 j (by omega) (by omega)).1
      have z : 1 ≤ zbm md := by rcases hm with z | z <;> rw [z.1] <;> decide
      omega
    · obtain ⟨p1, p2, _, p4, p5, p6, D, p7, p8, p9⟩ := p
      obtain ⟨k1, k2, k3, k4, k5, k6, k7, k8, k9, k10, k11⟩ := s
      refine h1 w hr ν _ D k1 k2 k3 k4 k7 p4 (by omega) (fun j hj => ?_) p6 p7 p8 ?_
      · rw [k8, k9]; exact p5 j hj
      · rw [k8, k9]; exact p9
  have inn : ∀ (m : Nat) (P' B' : Int → Int), (∀ j : Int, ((0 : Nat) : Int) ≤ j → j < ((0 + m : Nat) : Int) → zbm md ≤ zbi (P' j) ∧ (0 ≤ B' j ∧ B' j < 400) ∧ 20 ≤ P' j) → zinn P' (0 + m) = -1 := fun m P' B' h => by
    rw [zinn_up m (fun j a b => zbi_rng.1 ?_)]
    · rfl
    · have := (h j a b).1
      have z : 1 ≤ zbm md := by rcases hm with z | z <;> rw [z.1] <;> decide
      omega
  rcases hm with ⟨rfl, rfl⟩ | ⟨rfl, rfl⟩
  · refine m3 0 q lv q' lv' c 0 zK0 r _ _ _ _ 1 e (by omega) hqL l50 (by omega) nB (Or.inl rfl) (fun z => absurd z (by decide)) (by rw [if_pos (by decide)]; exact Or.inl rfl) hf (fun w hr c' m O' A' P' B' p => ?_) _ S0
    have e' := e
    rw [hr] at e'
    have p3 := p.2.2.1
    exact rx_overS hd (by omega) ((zPp_stop _ _ _ _ _ _ _ _ _ e').2.1 rfl) (inn m P' B' p.2.1) rfl (over w hr c' m O' A' P' B' p)
  · refine m8 0 q lv q' lv' c 0 zK0 r _ _ _ _ 0 e (by omega) hqL l50 (by omega) nB (Or.inl rfl) (fun _ => ⟨Or.inr ⟨rfl, by decide⟩, rfl⟩) (by rw [if_neg (by decide)]) hf (fun w hr c' m O' A' P' B' p => ?_) _ S0
    have e' := e
    rw [hr] at e'
    have st := (zPp_stop _ _ _ _ _ _ _ _ _ e').2.2.2.2.1 rfl
    have p3 := p.2.2.1
    exact rx_overT hd (by omega) st.1 st.2 (inn m P' B' p.2.1) (over w hr c' m O' A' P' B' p)
theorem k_M_must {x : Int} {q : Nat} {Q : zM → Prop} (hd : 2 ≤ d) (ht : zTm μ T L q) (hb : μ 1320 13 = 0) (h1 : x ≠ 0 → ∀ ν, (∀ b : Int, b ≠ 1320 → ν b = μ b) → (∀ j : Int, ¬ (8 ≤ j ∧ j ≤ 11) → ν 1320 j = μ 1320 j) → zTm ν T L (znx T L q) → Q ν) (h0 : x = 0 → Q (zup (zup μ 1320 13 1) 1320 12 q)) : zCv X true l d 0 0 y_M_must [(13, 0, 1320), (0, 0, x)] μ Q := by
  refine c_M_must (a0 := 1320) (d1 := d - 1) (by omega) ⟨fun e => absurd hb e, fun _ => ⟨fun e => ⟨fun e2 => absurd hb e2, fun _ => k_M_next (by omega) ht (h1 e)⟩, fun e => ?_⟩⟩
  have e8 : zup μ 1320 13 1 1320 8 = q := by rw [zup_miss (by decide)]; exact ht.2.2.1
  rw [e8]
  have e13 : zup (zup μ 1320 13 1) 1320 12 q 1320 13 = 1 := by rw [zup_miss (by decide), zup_hit]
  exact ⟨fun _ => h0 e, fun z => by rw [e13] at z; exact absurd z (by decide)⟩
end
def zFk (μ ν : zM) : Prop := (∀ b : Int, b ≠ 1320 → ¬ (1326 ≤ b ∧ b ≤ 1330) → ν b = μ b) ∧ ∀ j : Int, ¬ (8 ≤ j ∧ j ≤ 14) → j ≠ 16 → j ≠ 19 → j ≠ 22 → j ≠ 23 → ν 1320 j = μ 1320 j
theorem zFk.trans {μ ν ρ : zM} (h : zFk μ ν) (k : zFk ν ρ) : zFk μ ρ := ⟨fun b h1 h2 => (k.1 b h1 h2).trans (h.1 b h1 h2), fun j h1 h2 h3 h4 h5 => (k.2 j h1 h2 h3 h4 h5).trans (h.2 j h1 h2 h3 h4 h5)⟩
theorem zFk.refl {μ : zM} : zFk μ μ := ⟨fun _ _ _ => rfl, fun _ _ _ _ _ _ => rfl⟩
theorem zFw.k {μ ν : zM} (h : zFw μ ν) : zFk μ ν := ⟨fun b h1 h2 => h.1 b h1 (by omega) (by omega) (by omega) (by omega), fun j h1 h2 h3 h4 h5 => h.2 j (by omega) h2 h3 h4 h5⟩
theorem zFk.up {μ ν : zM} {a i v : Int} (h : zFk μ ν) (ha : a = 1326 ∨ (a = 1320 ∧ 8 ≤ i ∧ i ≤ 14)) : zFk μ (zup ν a i v) := ⟨fun b h1 h2 => by rw [zup_ne (by omega)]; exact h.1 b h1 h2, fun j h1 h2 h3 h4 h5 => by rw [zup_miss (by omega)]; exact h.2 j h1 h2 h3 h4 h5⟩
/-- a clause, read by the reference: its n-th -/
def zMp (T : Int → Int) (L : Nat) (μ ν : zM) (n c q' lv' : Nat) (g : Int) (ws wt : zSem) : Prop := zFk μ ν ∧ ν 1320 12 = μ 1320 12 ∧ zTm ν T L q' ∧ ν 1320 13 = 0 ∧ ν 1320 14 = ((n + 1 : Nat) : Int) ∧ ν 1320 19 = lv' ∧ lv' ≤ 50 ∧ (∀ i : Int, i < c → ν 1327 i = μ 1327 i ∧ ν 1328 i = μ 1328 i) ∧ (∀ i : Int, i < 8 * n → ν 1326 i = μ 1326 i) ∧ zGd 3 ws ∧ zGd 8 wt ∧
  ∃ c1 c2 : Nat, ν 1320 16 = c2 ∧ ν 1326 (8 * n) = 1 - g ∧ ν 1326 (8 * n + 3) = c ∧ ν 1326 (8 * n + 4) = c1 ∧ ν 1326 (8 * n + 5) = c1 ∧ ν 1326 (8 * n + 6) = c2 ∧ c < c1 ∧ c1 ≤ c2 ∧ c2 ≤ q' ∧ (∃ D : Nat, D ≤ 64 ∧ zTl (fun i => zMk (ν 1327 i)) (fun i => zMa (ν 1327 i) (ν 1328 i)) c c1 ws D) ∧ (c1 < c2 → ∃ D : Nat, D ≤ 64 ∧ zTl (fun i => zMk (ν 1327 i)) (fun i => zMa (ν 1327 i) (ν 1328 i)) c1 c2 wt D) ∧ (c2 ≤ c1 → wt = zK0)

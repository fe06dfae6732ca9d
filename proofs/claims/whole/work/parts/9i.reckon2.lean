section
variable {X : zX} {l : Launch} {d : Nat} {μ : zM} {δ : Nat → Int → Int} {law : Option zLaw}
theorem k_R_step {x wo : Int} {m g : Nat} {Q : zM → Prop} (hd : 5 ≤ d) (hB : zBigs μ) (hC : zCd μ δ) (hD : zDb δ) (hL : zCL μ law) (m5 : m ≤ 5) (hg : g ≤ 12) (hx : x = -1 ∨ (0 ≤ x ∧ x < m)) (hwo : μ 106 5 = wo) (hR : zRk μ δ law wo x m g) (hQ : ∀ ν, zKr μ ν → zRk ν δ law wo x m (g + 1) → Q ν) : zCv X true l d 0 0 y_Reckoner_step [(6, 0, 105)] μ Q := by
  obtain ⟨r1, r2, r3, r4, r5⟩ := hR
  have hb := hB.1.1
  obtain ⟨c124, c126, c128, c130, c132⟩ := hB.1.2.1
  refine c_Reckoner_step (a0 := 105) (d1 := 4) (by omega) ⟨fun ex => ?_, fun ex => ?_⟩
  · have ex' : x ≠ -1 := by omega
    have r5 := r5 ex'
    obtain ⟨w, hw⟩ : ∃ w : Nat, x = w := ⟨x.toNat, by omega⟩
    have hw' : x.toNat = w := by omega
    rw [hw'] at r5
    rw [← hwo] at r5
    have go : ∀ (t1 t2 : Nat) (o1 a1 o2 a2 : Int), (t1 = 20 ∧ o1 = 13 ∧ a1 = 121) ∧ (t2 = 21 ∧ o2 = 14 ∧ a2 = 122) ∨ (t1 = 21 ∧ o1 = 14 ∧ a1 = 122) ∧ (t2 = 20 ∧ o2 = 13 ∧ a2 = 121) → a1 + o1 = (if μ 105 6 = 0 then 134 else 136) → zCv X true l 4 0 0 y_Reckoner_stepBeside [(6, 0, 105), ((t1 + 2), 243, a1), ((t2 + 2), 243, a2)] μ Q := by
      intro t1 t2 o1 a1 o2 a2 h12 hao
      refine k_stepBeside (law := law) (δ := δ) (m := m) (who := w) (g := g) h12 (by omega) hC hD hL m5 (by omega) hg (by omega) r2 r3 c124 (fun s hs => by rw [hao]; exact r5 s hs) (fun s hs => ?_) (fun ν n1 n2 n3 n4 n5 n6 => ?_)
      · have q := hb s (by omega) (by omega)
        rcases h12 with ⟨_, _, e1, e2⟩ | ⟨_, _, e1, e2⟩
        · rw [e1, e2]; exact q.2
        · rw [e1, e2]; exact q.1
      · have hb7 : ∀ s : Int, 0 ≤ s → s < 243 → zBig ν (134 + 4 * s) 15 ∧ zBig ν (136 + 4 * s) 15 := fun s s0 s3 => by
          have q := hb s s0 s3
          have v := n6 s.toNat (by omega)
          rw [Int.toNat_of_nonneg s0] at v
          rcases h12 with ⟨_, _, e1, e2⟩ | ⟨_, _, e1, e2⟩
          · rw [e1, e2] at v
            exact ⟨q.1.keep (n1 _ (by omega) (by omega) (by omega) (by omega)) (n1 _ (by omega) (by omega) (by omega) (by omega)), v.1⟩
          · rw [e1, e2] at v
            exact ⟨v.1, q.2.keep (n1 _ (by omega) (by omega) (by omega) (by omega)) (n1 _ (by omega) (by omega) (by omega) (by omega))⟩
        have k2 : ∀ b : Int, 126 ≤ b → b < 134 → ν b = μ b := fun b b0 b1 => n1 b (by omega) (by omega) (by omega) (by omega)
        refine hQ ν ⟨fun b b0 b1 b2 => n1 b b0 b1 (by omega) (by omega), hB.rk (fun b b0 b1 => n1 b (by omega) (by omega) (by omega) (by omega)) hb7 ⟨n5, c126.keep (k2 _ (by omega) (by omega)) (k2 _ (by omega) (by omega)), c128.keep (k2 _ (by omega) (by omega)) (k2 _ (by omega) (by omega)), c130.keep (k2 _ (by omega) (by omega)) (k2 _ (by omega) (by omega)), c132.keep (k2 _ (by omega) (by omega)) (k2 _ (by omega) (by omega))⟩⟩ ⟨by rw [n2 1 (by decide) (by decide)]; exact r1, n3, by rw [n2 3 (by decide) (by decide)]; exact r3, fun q => absurd q ex', fun _ s hs => ?_⟩
        have e6 : a2 + o2 = (if ν 105 6 = 0 then 134 else 136) := by
          rw [n4]
          by_cases z : μ 105 6 = 0
          · rw [if_pos z] at hao
            rw [if_neg (show ¬ ¬ μ 105 6 = 0 from fun q => q z), if_neg (by decide)]
            omega
          · rw [if_neg z] at hao
            rw [if_pos z, if_pos rfl]
            omega
        rw [← e6, hw', ← hwo]
        exact n6 s hs
    refine ⟨fun z => ⟨fun _ => ?_, fun q => absurd z q⟩, fun z => ⟨fun q => absurd q z, fun _ => ?_⟩⟩
    · exact go 20 21 13 121 14 122 (by decide) (by rw [if_pos z]; decide)
    · exact go 21 20 14 122 13 121 (by decide) (by rw [if_neg z]; decide)
  · have ex' : x = -1 := by omega
    have r4 := r4 ex'
    have sb := zsty_bd (c := fun p g => zcg δ law wo p g 0 0) (fun p g => zcg_bd) m g
    refine k_stepTogether12 (by omega) hC hD hL r3 m5 r2 hg r4 sb.2 (fun ν n1 n2 n3 n4 => ?_)
    rw [hwo] at n4
    refine hQ ν ⟨fun b b0 b1 b2 => n1 b b0 (by omega) (by omega) (by omega) (by omega), hB.rk (fun b b0 b1 => n1 b (by omega) (by omega) (by omega) (by omega) (by omega)) (fun s s0 s1 => ⟨(hb s s0 s1).1.keep (n1 _ (by omega) (by omega) (by omega) (by omega) (by omega)) (n1 _ (by omega) (by omega) (by omega) (by omega) (by omega)), (hb s s0 s1).2.keep (n1 _ (by omega) (by omega) (by omega) (by omega) (by omega)) (n1 _ (by omega) (by omega) (by omega) (by omega) (by omega))⟩) ⟨c124.keep (n1 _ (by omega) (by omega) (by omega) (by omega) (by omega)) (n1 _ (by omega) (by omega) (by omega) (by omega) (by omega)), c126.keep (n1 _ (by omega) (by omega) (by omega) (by omega) (by omega)) (n1 _ (by omega) (by omega) (by omega) (by omega) (by omega)), n4.1, c130.keep (n1 _ (by omega) (by omega) (by omega) (by omega) (by omega)) (n1 _ (by omega) (by omega) (by omega) (by omega) (by omega)), c132.keep (n1 _ (by omega) (by omega) (by omega) (by omega) (by omega)) (n1 _ (by omega) (by omega) (by omega) (by omega) (by omega))⟩⟩ ⟨by rw [n2 1 (by decide)]; exact r1, n3, by rw [n2 3 (by decide)]; exact r3, fun _ => n4, fun q => absurd ex' q⟩
theorem k_R_tell {x wo : Int} {m g : Nat} {Q : zM → Prop} (hd : 3 ≤ d) (hB : zBigs μ) (m5 : m ≤ 5) (hg : g ≤ 12) (hx : x = -1 ∨ (0 ≤ x ∧ x < m)) (hR : zRk μ δ law wo x m g) (hQ : ∀ ν, zKr μ ν → zRk ν δ law wo x m g → zBv ν 130 15 (zev δ law wo x m g) → Q ν) : zCv X true l d 0 0 y_Reckoner_tell [(6, 0, 105)] μ Q := by
  obtain ⟨r1, r2, r3, r4, r5⟩ := hR
  have hb := hB.1.1
  obtain ⟨c124, c126, c128, c130, c132⟩ := hB.1.2.1
  -- the end, from any state whose sum stands
  have fin : ∀ (ν : zM) (v : Int), (∀ b : Int, ¬ (128 ≤ b ∧ b ≤ 129) → ν b = μ b) → zBv ν 128 15 v → v ≤ 100 ^ (m * g) → 100 ^ (m * g) - v = zev δ law wo x m g → (x = -1 → v = zsty (fun p g => zcg δ law wo p g 0 0) m g) → zE X true l d 0 0 y_Reckoner_tell 69 [some (6, 0, 105), none, none] [] ν (zrn Q) := by
    intro ν v n1 n2 n3 n4 n5
    have e105 : ν 105 = μ 105 := n1 105 (by decide)
    refine k_tell69 (by omega) (by rw [e105]; exact r3) m5 (by rw [e105]; exact r2) hg (c126.keep (n1 _ (by omega)) (n1 _ (by omega))) (c130.keep (n1 _ (by omega)) (n1 _ (by omega))) n2 n3 (fun ν2 t1 t2 t3 => ?_)
    have e2 : ν2 105 = μ 105 := (t1 105 (by decide) (by decide)).trans e105
    have k : ∀ b : Int, ¬ (126 ≤ b ∧ b ≤ 131) → ν2 b = μ b := fun b hb => by rw [t1 b (by omega) (by omega), n1 b (by omega)]
    rw [n4] at t3
    refine hQ ν2 ⟨fun b b0 b1 b2 => k b (by omega), hB.any (fun b hb => k b (by omega)) t2 (n2.keep (t1 _ (by omega) (by omega)) (t1 _ (by omega) (by omega))) t3⟩ ⟨by rw [e2]; exact r1, by rw [e2]; exact r2, by rw [e2]; exact r3, fun ex => ?_, fun ex s hs => ?_⟩ t3
    · rw [← n5 ex]
      exact n2.keep (t1 _ (by omega) (by omega)) (t1 _ (by omega) (by omega))
    · rw [e2]
      have := r5 ex s hs
      exact this.keep (k _ (by split <;> omega)) (k _ (by split <;> omega))
  refine c_Reckoner_tell (a0 := 105) (d1 := 2) (by omega) ⟨fun ex => ?_, fun ex => ?_⟩
  · have ex' : x = -1 := by omega
    have r4 := r4 ex'
    have sb := zsty_bd (c := fun p g => zcg δ law wo p g 0 0) (fun p g => zcg_bd) m g
    exact fin μ _ (fun _ _ => rfl) r4 sb.2 (by unfold zev; rw [if_pos ex']) (fun _ => rfl)
  · have ex' : x ≠ -1 := by omega
    have r5 := r5 ex'
    generalize hcha : (fun (g p : Nat) (s go : Int) => zcg δ law wo p g s go) = cha at *
    have cb : ∀ (g p : Nat) (s go : Int), 0 ≤ cha g p s go ∧ cha g p s go ≤ 100 := fun g p s go => by rw [← hcha]; exact zcg_bd
    have es := zeV_sum (cha := cha) (who := x.toNat) (g := g) m5
    have ub := zeU_bd (cha := cha) (who := x.toNat) (g := g) m5 cb
    have lim := z120 (zmn m5 hg)
    have loop : ∀ (tt : Nat) (o a : Int), tt = 20 ∧ o = 13 ∧ a = 121 ∨ tt = 21 ∧ o = 14 ∧ a = 122 → a + o = (if μ 105 6 = 0 then 134 else 136) → ∀ k i : Nat, i + k = 243 → ∀ ν : zM, (∀ b : Int, ¬ (128 ≤ b ∧ b ≤ 129) → ν b = μ b) → zBv ν 128 15 (ztot (zeV cha m x.toNat g) i) → zE X true l d 0 0 y_Reckoner_tell 36 [some (6, 0, 105), some ((tt + 2), 243, a), some (0, 0, (i : Int))] [] ν (zrn Q) := by
      intro tt o a hta hao k
      have hto : tt = 20 ∧ o = 13 ∨ tt = 21 ∧ o = 14 := by omega
      induction k with
      | zero =>
        intro i hi ν n1 n2
        obtain rfl : i = 243 := by omega
        refine s_Reckoner_tell_36 (a0 := 105) (a1 := a) (d1 := 2) hto (by omega) ⟨fun _ => ?_, fun c => absurd (by decide) c⟩
        refine fin ν _ n1 n2 (by rw [es]; omega) ?_ (fun q => absurd q ex')
        unfold zev
        rw [if_neg ex', es, hcha]
        omega
      | succ k ih =>
        intro i hi ν n1 n2
        have vi := (r5 i (by omega))
        rw [← hao] at vi
        have vi := vi.keep (n1 _ (by omega)) (n1 _ (by omega))
        have ti := ztot_nn (c := zeV cha m x.toNat g) (i + 1) (fun j _ => (zeV_bd m5 cb).1)
        have le : ztot (zeV cha m x.toNat g) (i + 1) ≤ ztot (zeV cha m x.toNat g) 243 := by
          have e := ztot_add (c := zeV cha m x.toNat g) (a := i + 1) (243 - (i + 1))
          rw [show i + 1 + (243 - (i + 1)) = 243 by omega] at e
          have := ztot_nn (c := fun j => zeV cha m x.toNat g (i + 1 + j)) (243 - (i + 1)) (fun j _ => (zeV_bd m5 cb).1)
          omega
        rw [es, ztot_s] at le
        refine s_Reckoner_tell_36 (a0 := 105) (a1 := a) (o1 := o) (d1 := 2) hto (by omega) ⟨fun c => absurd c (by omega), fun _ => ⟨by omega, fun z => ?_, fun z => ⟨by omega, ?_⟩⟩⟩
        · rw [zw_of (by omega) (by omega)]
          refine ih (i + 1) (by omega) ν n1 ?_
          rw [ztot_s, vi.zero.1 z, Int.add_zero]
          exact n2
        · simp only [Int.reduceAdd]
          refine k_addTimes (a := 128) (a1 := a + o + 4 * (i : Int)) (L := 15) (by omega) (by omega) n2 vi (by omega) (by decide) (by decide) (by rw [Int.mul_one]; omega) (fun ν3 s1 s2 => ?_)
          rw [Int.mul_one] at s2
          rw [zw_of (by omega) (by omega)]
          exact ih (i + 1) (by omega) ν3 (fun b hb => by rw [s1 b (by omega) (by omega)]; exact n1 b hb) s2
    refine ⟨fun z => ?_, fun z => ?_⟩
    · simp only [Int.reduceAdd]
      refine k_setZero (a := 128) (L := 15) (by omega) c128 (fun ν3 s1 s2 _ _ => ?_)
      exact loop 20 13 121 (by decide) (by rw [if_pos z]; decide) 243 0 (by omega) ν3 (fun b hb => s1 b (by omega) (by omega)) s2
    · simp only [Int.reduceAdd]
      refine k_setZero (a := 128) (L := 15) (by omega) c128 (fun ν3 s1 s2 _ _ => ?_)
      exact loop 21 14 122 (by decide) (by rw [if_neg z]; decide) 243 0 (by omega) ν3 (fun b hb => s1 b (by omega) (by omega)) s2
theorem zev_bd {wo x : Int} {m g : Nat} (m5 : m ≤ 5) : 0 ≤ zev δ law wo x m g ∧ zev δ law wo x m g ≤ 100 ^ (m * g) := by
  unfold zev
  split
  · have sb := zsty_bd (c := fun p g => zcg δ law wo p g 0 0) (fun p g => zcg_bd) m g
    omega
  · exact zeU_bd m5 (fun g p s go => zcg_bd)
theorem k_R_reckon {x wo : Int} {m G : Nat} {Q : zM → Prop} (hd : 6 ≤ d) (hB : zBigs μ) (hC : zCd μ δ) (hD : zDb δ) (hL : zCL μ law) (hm : δ 10 0 = m) (m5 : m ≤ 5) (hG : G ≤ 12) (hx : x = -1 ∨ (0 ≤ x ∧ x < m)) (hwo : μ 106 5 = wo) (hQ : ∀ ν, zKr μ ν → ν 105 2 = G → ν 105 3 = m → zBv ν 130 15 (zev δ law wo x m G) → Q ν) : zCv X true l d 0 0 y_Reckoner_reckon [(6, 0, 105), (0, 0, x), (0, 0, (G : Int))] μ Q := by
  refine c_Reckoner_reckon (a0 := 105) (d1 := 5) (by omega) (k_R_start (δ := δ) (law := law) (m := m) (by omega) hB hC hm hx (fun ν1 k1 s1 => ?_))
  rw [hwo] at s1
  have loop : ∀ k i : Nat, i + k = G → ∀ ν : zM, zKr μ ν → zRk ν δ law wo x m i → zE X true l d 0 0 y_Reckoner_reckon 7 [some (6, 0, 105), none, some (0, 0, (G : Int)), some (0, 0, (i : Int))] [] ν (zrn Q) := by
    intro k
    induction k with
    | zero =>
      intro i hi ν kν sν
      obtain rfl : i = G := by omega
      refine s_Reckoner_reckon_7 (a0 := 105) (d1 := 5) (by omega) ⟨fun _ => k_R_tell (δ := δ) (law := law) (by omega) kν.2 m5 hG hx sν (fun ν2 k2 s2 v2 => ?_), fun c => absurd (by omega) c⟩
      exact hQ ν2 (kν.trans k2) s2.2.1 s2.2.2.1 v2
    | succ k ih =>
      intro i hi ν kν sν
      refine s_Reckoner_reckon_7 (a0 := 105) (d1 := 5) (by omega) ⟨fun c => absurd c (by omega), fun _ => ⟨fun c => absurd c (by omega), fun _ => k_R_step (δ := δ) (law := law) (by omega) kν.2 (hC.keep (fun b b0 b1 => kν.1 b (by omega) (by omega) (by omega))) hD (hL.keep (fun b hb => kν.1 b (by omega) (by omega) (by omega))) m5 (by omega) hx (by rw [kν.1 106 (by decide) (by decide) (by decide)]; exact hwo) sν (fun ν2 k2 s2 => ?_)⟩⟩
      rw [zw_of (by omega) (by omega)]
      exact ih (i + 1) (by omega) ν2 (kν.trans k2) s2
  exact loop G 0 (by omega) ν1 k1 s1
end

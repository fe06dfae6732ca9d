section
variable {X : zX} {l : Launch} {d : Nat} {μ : zM}
def zF2 (μ ν : zM) : Prop := (∀ b : Int, b ≠ 1320 → ¬ (1331 ≤ b ∧ b ≤ 1333) → ¬ (1335 ≤ b ∧ b ≤ 1338) → ν b = μ b) ∧ ∀ j : Int, j ≠ 24 → j ≠ 27 → j ≠ 28 → j ≠ 29 → ν 1320 j = μ 1320 j
theorem zF2.refl : zF2 μ μ := ⟨fun _ _ _ _ => rfl, fun _ _ _ _ _ => rfl⟩
theorem zF2.trans {μ ν ρ : zM} (h : zF2 μ ν) (k : zF2 ν ρ) : zF2 μ ρ := ⟨fun b h1 h2 h3 => (k.1 b h1 h2 h3).trans (h.1 b h1 h2 h3), fun j h1 h2 h3 h4 => (k.2 j h1 h2 h3 h4).trans (h.2 j h1 h2 h3 h4)⟩
theorem zF2.one {μ ν : zM} {c : Int} (h : ∀ b : Int, b ≠ c → ν b = μ b) (hc : c = 1333 ∨ c = 1336 ∨ c = 1337) : zF2 μ ν := ⟨fun b h1 h2 h3 => h b (by omega), fun j _ _ _ _ => by rw [h 1320 (by omega)]⟩
theorem zFr.two {μ ν : zM} (h : zFr μ ν) : zF2 μ ν := ⟨fun b h1 h2 h3 => h.1 b h1 (by omega) (by omega) (by omega) (by omega) (by omega), h.2⟩
theorem zAr.zero {c : Int} {s : Nat} (h : ∀ k : Int, 0 ≤ k → k < 16 → μ c (16 * (s : Int) + k) = 0) : zAr μ c s 0 := by
  refine ⟨fun k k0 k1 => ?_, ?_⟩
  · dsimp only
    rw [h k k0 k1]
    omega
  · rw [znum_congr (g := fun _ => 0) 16 (fun k k0 k1 => h k k0 k1)]
    decide
theorem k_findEach {who m G : Nat} {P : Int} {law : Option zLaw} {Q : zM → Prop} (hd : 5 ≤ d) (hR : zRB (μ 1322)) (hP : μ 1320 30 = P) (P0 : 0 ≤ P) (P1 : P < 6) (hm : μ 1320 31 = m) (m5 : m ≤ 5) (hb : μ 1320 34 = 0) (hL : zML μ law) (g12 : G ≤ 12) (hw : who < m)
    (hQ : ∀ ν, zF2 μ ν → zRn ν 1333 16 (zeU (fun g p s go => zcha (zMd (μ 1322) P m 0 0) law (μ 1320 33) p g s go) m who G) → Q ν) : zCv X true l d 0 0 y_M_findEach [(13, 0, 1320), (0, 0, (who : Int)), (0, 0, (G : Int))] μ Q := by
  generalize hcha : (fun (g p : Nat) (s go : Int) => zcha (zMd (μ 1322) P m 0 0) law (μ 1320 33) p g s go) = cha at *
  have hcha' : ∀ g : Nat, (fun (p : Nat) (s go : Int) => zcha (zMd (μ 1322) P m 0 0) law (μ 1320 33) p g s go) = cha g := fun g => by rw [← hcha]
  have cb : ∀ (g p : Nat) (s go : Int), 0 ≤ cha g p s go ∧ cha g p s go ≤ 100 := fun g p s go => by rw [← hcha]; exact zcha_bd
  have h3 := zpow3 m5
  have h30 : 0 < 3 ^ m := Nat.pow_pos (by decide)
  have big : (100 : Int) ^ 60 * 10032 < zpw 16 := by
    have := z120 (n := 60) (by omega)
    have e : zpw 16 = 1000000000 * zpw 15 := zpw_succ 15
    omega
  have H0 : (0 : Int) < 100 ^ 60 := Int.pow_pos (by decide)
  have fr : ∀ ν : zM, zF2 μ ν → ν 1322 = μ 1322 ∧ ν 1320 30 = P ∧ ν 1320 31 = m ∧ ν 1320 34 = 0 ∧ ν 1320 33 = μ 1320 33 ∧ zML ν law := fun ν q => by
    have e22 := q.1 1322 (by decide) (by decide) (by decide)
    exact ⟨e22, by rw [q.2 30 (by decide) (by decide) (by decide) (by decide)]; exact hP, by rw [q.2 31 (by decide) (by decide) (by decide) (by decide)]; exact hm, by rw [q.2 34 (by decide) (by decide) (by decide) (by decide)]; exact hb, q.2 33 (by decide) (by decide) (by decide) (by decide), hL.keep (q.2 32 (by decide) (by decide) (by decide) (by decide)) e22⟩
  have Rle : ∀ (g s : Nat), g ≤ 12 → s < 3 ^ m → 0 ≤ zeR cha m g s ∧ zeR cha m g s ≤ 100 ^ 60 := fun g s hg hs => by
    have a := zeR_bd m5 cb (g := g) hs
    have b := zhm_mono (zmn m5 hg)
    exact ⟨zeR_nn cb g s, Int.le_trans a b⟩
  -- the sum at the end
  have l163 : ∀ k s : Nat, s + k = 3 ^ m → ∀ ν : zM, zF2 μ ν → (∀ u : Nat, u < 3 ^ m → zAr ν 1336 u (zeR cha m G u)) → zRn ν 1333 16 (ztot (fun s => if zeF s who = 0 then 0 else zeR cha m G s) s) → zE X true l d 0 0 y_M_findEach 163 [some (13, 0, 1320), some (0, 0, (who : Int)), none, some (0, 0, ((3 ^ m : Nat) : Int)), some (0, 0, (s : Int)), none, none, none, none, none] [] ν (zrn Q) := by
    intro k
    induction k with
    | zero =>
      intro s hs ν q1 q2 q3
      have e : s = 3 ^ m := by omega
      refine s_M_findEach_163 (a0 := 1320) (d1 := 4) (by omega) ⟨fun _ => hQ ν q1 (by rw [e] at q3; exact q3), fun c => absurd (by omega) c⟩
    | succ k ih =>
      intro s hs ν q1 q2 q3
      refine s_M_findEach_163 (a0 := 1320) (d1 := 4) (by omega) ⟨fun c => absurd c (by omega), fun _ => k_M_figure (t := s) (p := who) (by omega) (by omega) ⟨fun c => ?_, fun c => ?_⟩⟩
      · have z : zeF s who = 0 := by omega
        rw [zw_of (by omega) (by omega)]
        refine ih (s + 1) (by omega) ν q1 q2 ?_
        rw [ztot_s, if_pos z, Int.add_zero]
        exact q3
      · have z : ¬ zeF s who = 0 := by omega
        have ts : ztot (fun s => if zeF s who = 0 then 0 else zeR cha m G s) (s + 1) = ztot (fun s => if zeF s who = 0 then 0 else zeR cha m G s) s + zeR cha m G s := by rw [ztot_s, if_neg z]
        have tb := ztot_bd (c := fun s => if zeF s who = 0 then 0 else zeR cha m G s) (B := 100 ^ 60) (s + 1) (fun i hi => by
          have := Rle G i g12 (by omega)
          split <;> omega)
        have tb2 := Int.mul_le_mul_of_nonneg_left (show ((s + 1 : Nat) : Int) ≤ 243 by omega) (Int.le_of_lt H0)
        generalize ztot (fun s => if zeF s who = 0 then 0 else zeR cha m G s) s = a at *
        have qs := q2 s (by omega)
        generalize zeR cha m G s = b at *
        rw [ts] at tb
        have l184 : ∀ j i : Nat, i + j = 16 → ∀ (ν2 : zM) (c : Int), (∀ q : Int, q ≠ 1333 → ν2 q = ν q) → (∀ j : Int, (i : Int) ≤ j → ν2 1333 j = ν 1333 j) → zdig (ν2 1333) 16 → 0 ≤ c → c ≤ 1 → znum (ν2 1333) i + c * zpw i = znum (ν 1333) i + znum (fun k => ν 1336 (16 * (s : Int) + k)) i → zE X true l d 0 0 y_M_findEach 184 [some (13, 0, 1320), some (0, 0, (who : Int)), none, some (0, 0, ((3 ^ m : Nat) : Int)), some (0, 0, (s : Int)), some (1, 0, c), none, some (0, 0, (i : Int)), none, none] [] ν2 (zrn Q) := by
          intro j
          induction j with
          | zero =>
            intro i hi ν2 c n1 n2 n3 c0 c1 hc
            obtain rfl : i = 16 := by omega
            rw [q3.2, qs.2] at hc
            have b1 := znum_bd 16 n3
            have cz : c = 0 := by
              by_cases e : c = 0
              · exact e
              · have e1 : c = 1 := by omega
                rw [e1, Int.one_mul] at hc
                omega
            rw [cz, Int.zero_mul, Int.add_zero] at hc
            refine s_M_findEach_184 (a0 := 1320) ⟨fun _ => ?_, fun c => absurd (by decide) c⟩
            rw [zw_of (by omega) (by omega)]
            refine ih (s + 1) (by omega) ν2 (q1.trans (zF2.one n1 (by omega))) (fun u hu => (q2 u hu).keep (fun k _ _ => by rw [n1 1336 (by decide)])) ?_
            rw [ts]
            exact ⟨n3, hc⟩
          | succ j ihj =>
            intro i hi ν2 c n1 n2 n3 c0 c1 hc
            have e1 : ν2 1333 i = ν 1333 i := n2 i (by omega)
            have f1 := q3.1 i (by omega) (by omega)
            have f2 := qs.1 i (by omega) (by omega)
            dsimp only at f2
            have wu : zw (zw (16 * (s : Int)) + i) = 16 * (s : Int) + i := by rw [zw_of (x := 16 * (s : Int)) (by omega) (by omega), zw_of (by omega) (by omega)]
            refine s_M_findEach_184 (a0 := 1320) ⟨fun c => absurd c (by omega), fun _ => ⟨by omega, by rw [wu]; omega, by omega, ?_⟩⟩
            simp only [Int.reduceAdd]
            rw [wu, e1, n1 1336 (by decide), zwl_id (x := ν 1333 i + ν 1336 (16 * (s : Int) + i)) (by omega) (by omega), zwl_id (by omega) (by omega), zdivl_of (by omega) (by omega) (by decide) (by decide), zreml_of (by omega) (by omega) (by decide) (by decide), zw_of (x := (i : Int) + 1) (by omega) (by omega)]
            refine ihj (i + 1) (by omega) _ _ (fun b hb => (zup_ne hb).trans (n1 b hb)) (fun j hj => (zup_miss (by omega)).trans (n2 j (by omega))) (fun j j0 j1 => ?_) (by omega) (by omega) ?_
            · rw [zup_val]
              split
              · omega
              · exact n3 j j0 j1
            · rw [znum_up, zpw_succ]
              rw [zcarry (F := znum (ν 1333) i + znum (fun k => ν 1336 (16 * (s : Int) + k)) i) (c := c) (t := ν 1333 i + ν 1336 (16 * (s : Int) + i)) hc (by omega), znum_s, znum_s]
              have : ∀ A B x y p : Int, A + B + (x + y) * p = A + x * p + (B + y * p) := fun A B x y p => by grind
              exact this _ _ _ _ _
        exact l184 16 0 rfl ν 0 (fun _ _ => rfl) (fun _ _ => rfl) q3.1 (by omega) (by omega) (by rw [show znum (ν 1333) 0 = 0 from rfl, show znum (fun k => ν 1336 (16 * (s : Int) + k)) 0 = 0 from rfl, Int.zero_mul])
  -- the glances
  have l59 : ∀ k g : Nat, g + k = G → ∀ ν : zM, zF2 μ ν → (∀ u : Nat, u < 3 ^ m → zAr ν 1336 u (zeR cha m g u)) → zE X true l d 0 0 y_M_findEach 59 [some (13, 0, 1320), some (0, 0, (who : Int)), some (0, 0, (G : Int)), some (0, 0, ((3 ^ m : Nat) : Int)), some (0, 0, (g : Int)), none, none, none, none, none] [] ν (zrn Q) := by
    intro k
    induction k with
    | zero =>
      intro g hg ν q1 q2
      obtain rfl : g = G := by omega
      refine s_M_findEach_59 (a0 := 1320) (d1 := 4) (by omega) ⟨fun _ => ?_, fun c => absurd (by omega) c⟩
      refine k_M_setTo (c := 1333) (n := 16) (by omega) (by omega) (by omega) (by decide) (by decide) (fun ν2 n1 n2 => ?_)
      exact l163 (3 ^ m) 0 (by omega) ν2 (q1.trans (zF2.one n1 (by omega))) (fun u hu => (q2 u hu).keep (fun k _ _ => by rw [n1 1336 (by decide)])) n2
    | succ k ih =>
      intro g hg ν q1 q2
      -- now := then
      have l116 : ∀ j i : Nat, i + j = 3888 → ∀ ν2 : zM, zF2 μ ν2 → (∀ u : Nat, u < 3 ^ m → zAr ν2 1337 u (zeR cha m (g + 1) u)) → (∀ k : Int, 0 ≤ k → k < i → ν2 1336 k = ν2 1337 k) → zE X true l d 0 0 y_M_findEach 116 [some (13, 0, 1320), some (0, 0, (who : Int)), some (0, 0, (G : Int)), some (0, 0, ((3 ^ m : Nat) : Int)), some (0, 0, (g : Int)), some (0, 0, (i : Int)), none, none, none, none] [] ν2 (zrn Q) := by
        intro j
        induction j with
        | zero =>
          intro i hi ν2 p1 p2 p3
          obtain rfl : i = 3888 := by omega
          refine s_M_findEach_116 (a0 := 1320) ⟨fun _ => ?_, fun c => absurd (by decide) c⟩
          rw [zw_of (by omega) (by omega)]
          refine ih (g + 1) (by omega) ν2 p1 (fun u hu => ?_)
          have e := p2 u hu
          have ee : ∀ k : Int, 0 ≤ k → k < 16 → ν2 1336 (16 * (u : Int) + k) = ν2 1337 (16 * (u : Int) + k) := fun k k0 k1 => p3 _ (by omega) (by omega)
          exact ⟨fun k k0 k1 => by dsimp only; rw [ee k k0 k1]; exact e.1 k k0 k1, by rw [← e.2]; exact znum_congr 16 ee⟩
        | succ j ihj =>
          intro i hi ν2 p1 p2 p3
          refine s_M_findEach_116 (a0 := 1320) ⟨fun c => absurd c (by omega), fun _ => ⟨by omega, by omega, ?_⟩⟩
          simp only [Int.reduceAdd]
          rw [zw_of (by omega) (by omega)]
          refine ihj (i + 1) (by omega) _ (p1.trans (zF2.one (c := 1336) (fun b hb => zup_ne hb) (by omega))) (fun u hu => (p2 u hu).keep (fun k _ _ => by rw [zup_ne (by decide)])) (fun k k0 k1 => ?_)
          rw [zup_val, zup_ne (show (1337 : Int) ≠ 1336 by decide)]
          split
          · rename_i e; rw [e]
          · exact p3 k k0 (by omega)
      -- the states
      have l93 : ∀ j s : Nat, s + j = 3 ^ m → ∀ ν2 : zM, zF2 μ ν2 → (∀ u : Nat, u < 3 ^ m → zAr ν2 1336 u (zeR cha m g u)) → (∀ u : Nat, u < 3 ^ m → zAr ν2 1337 u (ztot (fun t => zeE (zeR cha m g) (cha g) m t u) s)) → zE X true l d 0 0 y_M_findEach 93 [some (13, 0, 1320), some (0, 0, (who : Int)), some (0, 0, (G : Int)), some (0, 0, ((3 ^ m : Nat) : Int)), some (0, 0, (g : Int)), some (0, 0, (s : Int)), none, none, none, none] [] ν2 (zrn Q) := by
        intro j
        induction j with
        | zero =>
          intro s hs ν2 p1 p2 p3
          have e : s = 3 ^ m := by omega
          rw [e] at p3
          exact s_M_findEach_93 (a0 := 1320) (d1 := 4) (by omega) ⟨fun _ => l116 3888 0 (by omega) ν2 p1 p3 (fun k k0 k1 => by omega), fun c => absurd (by omega) c⟩
        | succ j ihj =>
          intro s hs ν2 p1 p2 p3
          obtain ⟨e22, e30, e31, e34, e33, eL⟩ := fr ν2 p1
          have Rs := Rle g s (by omega) (by omega)
          have hr : zeR cha m g s * 100 ^ m ≤ 100 ^ 60 := by
            have a := zeR_bd m5 cb (g := g) (t := s) (by omega)
            have p0 : (0 : Int) ≤ 100 ^ m := Int.le_of_lt (Int.pow_pos (by decide))
            have b := Int.mul_le_mul_of_nonneg_right a p0
            rw [← Int.pow_add] at b
            have hle : m * g + m ≤ 60 := by
              have := Nat.mul_le_mul m5 (show g + 1 ≤ 12 by omega)
              rw [Nat.mul_add] at this
              omega
            have := zhm_mono hle
            omega
          refine s_M_findEach_93 (a0 := 1320) (d1 := 4) (by omega) ⟨fun c => absurd c (by omega), fun _ => ?_⟩
          refine k_M_spread (t := s) (m := m) (g := g) (r := zeR cha m g s) (law := law) (A := fun u => ztot (fun t => zeE (zeR cha m g) (cha g) m t u) s) (by omega) (by rw [e22]; exact hR) e30 P0 P1 e31 m5 e34 eL (by omega) (by omega) (p2 s (by omega)) Rs.1 hr p3 (fun u hu => ?_) (fun ν3 f3 v3 => ?_)
          · have tb := ztot_bd (c := fun t => zeE (zeR cha m g) (cha g) m t u) (B := 100 ^ 60 * 32) s (fun i hi => by
              have eb := ztot_bd (c := fun go => zeT (zeR cha m g) (cha g) m i go u) (B := 100 ^ 60) (2 ^ m) (fun go _ => zeT_bd m5 (by omega) (by omega) cb)
              have two := zpow2 m5
              have := Int.mul_le_mul_of_nonneg_left (show ((2 ^ m : Nat) : Int) ≤ 32 by omega) (Int.le_of_lt H0)
              exact ⟨eb.1, Int.le_trans eb.2.1 this⟩)
            have := Int.mul_le_mul_of_nonneg_left (show (s : Int) ≤ 243 by omega) (show (0 : Int) ≤ 100 ^ 60 * 32 by omega)
            omega
          · rw [e22, e33, hcha' g] at v3
            rw [zw_of (by omega) (by omega)]
            refine ihj (s + 1) (by omega) ν3 (p1.trans f3.two) (fun u hu => (p2 u hu).keep (fun k _ _ => by rw [f3.1 1336 (by decide) (by decide) (by decide) (by decide) (by decide) (by decide)])) (fun u hu => ?_)
            rw [ztot_s]
            exact v3 u hu
      -- then := 0
      have l68 : ∀ j i : Nat, i + j = 3888 → ∀ ν2 : zM, zF2 μ ν2 → (∀ u : Nat, u < 3 ^ m → zAr ν2 1336 u (zeR cha m g u)) → (∀ k : Int, 0 ≤ k → k < i → ν2 1337 k = 0) → zE X true l d 0 0 y_M_findEach 68 [some (13, 0, 1320), some (0, 0, (who : Int)), some (0, 0, (G : Int)), some (0, 0, ((3 ^ m : Nat) : Int)), some (0, 0, (g : Int)), some (0, 0, (i : Int)), none, none, none, none] [] ν2 (zrn Q) := by
        intro j
        induction j with
        | zero =>
          intro i hi ν2 p1 p2 p3
          obtain rfl : i = 3888 := by omega
          refine s_M_findEach_68 (a0 := 1320) ⟨fun _ => l93 (3 ^ m) 0 (by omega) ν2 p1 p2 (fun u hu => ?_), fun c => absurd (by decide) c⟩
          exact zAr.zero (fun k k0 k1 => p3 _ (by omega) (by omega))
        | succ j ihj =>
          intro i hi ν2 p1 p2 p3
          refine s_M_findEach_68 (a0 := 1320) ⟨fun c => absurd c (by omega), fun _ => ⟨by omega, ?_⟩⟩
          simp only [Int.reduceAdd]
          rw [zw_of (by omega) (by omega)]
          refine ihj (i + 1) (by omega) _ (p1.trans (zF2.one (c := 1337) (fun b hb => zup_ne hb) (by omega))) (fun u hu => (p2 u hu).keep (fun k _ _ => by rw [zup_ne (by decide)])) (fun k k0 k1 => ?_)
          rw [zup_val]
          split
          · rfl
          · exact p3 k k0 (by omega)
      exact s_M_findEach_59 (a0 := 1320) (d1 := 4) (by omega) ⟨fun c => absurd c (by omega), fun _ => l68 3888 0 (by omega) ν q1 q2 (fun k k0 k1 => by omega)⟩
  -- now := 0, but 1 at the first state
  have l27 : ∀ j i : Nat, i + j = 3888 → ∀ ν2 : zM, zF2 μ ν2 → (∀ k : Int, 0 ≤ k → k < i → ν2 1336 k = 0) → zE X true l d 0 0 y_M_findEach 27 [some (13, 0, 1320), some (0, 0, (who : Int)), some (0, 0, (G : Int)), some (0, 0, ((3 ^ m : Nat) : Int)), some (0, 0, (i : Int)), none, none, none, none, none] [] ν2 (zrn Q) := by
    intro j
    induction j with
    | zero =>
      intro i hi ν2 p1 p3
      obtain rfl : i = 3888 := by omega
      refine s_M_findEach_27 (a0 := 1320) ⟨fun _ => ?_, fun c => absurd (by decide) c⟩
      simp only [Int.reduceAdd]
      refine l59 G 0 (by omega) _ (p1.trans (zF2.one (c := 1336) (fun b hb => zup_ne hb) (by omega))) (fun u hu => ?_)
      unfold zeR
      by_cases e : u = 0
      · rw [if_pos e, e]
        have v : ∀ k : Int, 0 ≤ k → k < 16 → zup ν2 1336 0 1 1336 (16 * ((0 : Nat) : Int) + k) = if k = 0 then 1 else 0 := fun k k0 k1 => by
          rw [zup_val]
          by_cases z : k = 0
          · rw [if_pos (by omega), if_pos z]
          · rw [if_neg (by omega), if_neg z]; exact p3 _ (by omega) (by omega)
        refine ⟨fun k k0 k1 => ?_, ?_⟩
        · dsimp only
          rw [v k k0 k1]
          split <;> omega
        · rw [znum_congr (g := fun k => if k = 0 then 1 else 0) 16 v]
          decide
      · rw [if_neg e]
        exact zAr.zero (fun k k0 k1 => by rw [zup_miss (by omega)]; exact p3 _ (by omega) (by omega))
    | succ j ihj =>
      intro i hi ν2 p1 p3
      refine s_M_findEach_27 (a0 := 1320) ⟨fun c => absurd c (by omega), fun _ => ⟨by omega, ?_⟩⟩
      simp only [Int.reduceAdd]
      rw [zw_of (by omega) (by omega)]
      refine ihj (i + 1) (by omega) _ (p1.trans (zF2.one (c := 1336) (fun b hb => zup_ne hb) (by omega))) (fun k k0 k1 => ?_)
      rw [zup_val]
      split
      · rfl
      · exact p3 k k0 (by omega)
  -- how many states
  have l5 : ∀ j i : Nat, i + j = m → zE X true l d 0 0 y_M_findEach 5 [some (13, 0, 1320), some (0, 0, (who : Int)), some (0, 0, (G : Int)), some (0, 0, ((3 ^ i : Nat) : Int)), some (0, 0, (i : Int)), none, none, none, none, none] [] μ (zrn Q) := by
    intro j
    induction j with
    | zero =>
      intro i hi
      obtain rfl : i = m := by omega
      exact s_M_findEach_5 (a0 := 1320) ⟨fun _ => l27 3888 0 (by omega) μ zF2.refl (fun k k0 k1 => by omega), fun c => absurd (by omega) c⟩
    | succ j ihj =>
      intro i hi
      have hi3 : 3 ^ i ≤ 243 := zpow3 (by omega)
      refine s_M_findEach_5 (a0 := 1320) ⟨fun c => absurd c (by omega), fun _ => ?_⟩
      have := ihj (i + 1) (by omega)
      rw [Nat.pow_succ] at this
      generalize 3 ^ i = q at hi3 this ⊢
      rw [zw_of (x := (i : Int) + 1) (by omega) (by omega), zw_of (x := (q : Int) * 3) (by omega) (by omega), show (q : Int) * 3 = ((q * 3 : Nat) : Int) by omega]
      exact this
  exact c_M_findEach (l5 m 0 (by omega))
end

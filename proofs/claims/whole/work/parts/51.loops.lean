/-! fright, streets, tale: loops that only read -/
def zfold (f : Nat → Int → Int) : Nat → Int
  | 0 => 0
  | k + 1 => f k (zfold f k)
theorem zfold_congr {f g : Nat → Int → Int} : ∀ {k : Nat}, (∀ i a, i < k → f i a = g i a) → zfold f k = zfold g k
  | 0, _ => rfl
  | k + 1, h => by
    show f k (zfold f k) = g k (zfold g k)
    rw [zfold_congr (fun i a hi => h i a (by omega)), h k _ (by omega)]
def zmx (f : Int → Int) : Nat → Int := zfold (fun i a => if a < f i then f i else a)
theorem zmx_alt {a b : Int} : (if b ≤ a then a else b) = if a < b then b else a := by split <;> split <;> omega
section
variable {LR : zM → Int → (Int → Int) → Prop} {μ : zM} {X : zX} {l : Launch} {d : Nat} {Q : Int → Int → zM → Prop}
theorem k_S_frightOf {x : Int} {c g : Nat} {Q : Int → zM → Prop} (hd : 1 ≤ d) (hx : 0 ≤ x ∧ x < 6) (hc : μ (23 + 6 * x) 0 = c) (hc5 : c ≤ 5) (hg : μ 1 4 = g) (hg12 : g ≤ 12) (h : Q (zw (zmx (μ 5) c * zmx (μ 8) g)) μ) : zCi X true l d 0 0 y_S_frightOf [(12, 0, 0), (0, 0, x)] μ Q := by
  have second : ∀ m i : Nat, i + m = g → zE X true l d 0 0 y_S_frightOf 52 [some (12, 0, 0), none, some (0, 0, zmx (μ 5) c), some (0, 0, zmx (μ 8) i), some (0, 0, (i : Int))] [] μ (zri Q) := by
    have hg' : μ (0 + 1) 4 = g := hg
    intro m
    induction m with
    | zero =>
      intro i hi
      have : i = g := by omega
      subst this
      exact s_S_frightOf_52 hd ⟨fun _ => h, fun q => absurd (by omega) q⟩
    | succ m ih =>
      intro i hi
      refine s_S_frightOf_52 hd ⟨fun q => absurd q (by omega), fun _ => ⟨fun q => absurd q (by omega), fun _ => ⟨⟨by omega, by omega⟩, ?_⟩⟩⟩
      rw [zw_of (x := (i : Int) + 1) (by omega) (by omega)]
      exact ih (i + 1) (by omega)
  have first : ∀ m i : Nat, i + m = c → zE X true l d 0 0 y_S_frightOf 4 [some (12, 0, 0), some (0, 0, x), some (0, 0, zmx (μ 5) i), some (0, 0, (i : Int)), none] [] μ (zri Q) := by
    have ee : (0 : Int) + 1 + 1 + 21 + 6 * x = 23 + 6 * x := by omega
    intro m
    induction m with
    | zero =>
      intro i hi
      have : i = c := by omega
      subst this
      refine s_S_frightOf_4 hd ⟨hx, ?_⟩
      rw [ee, hc]
      exact ⟨fun _ => second g 0 (by omega), fun q => absurd (by omega) q⟩
    | succ m ih =>
      intro i hi
      refine s_S_frightOf_4 hd ⟨hx, ?_⟩
      rw [ee, hc]
      refine ⟨fun q => absurd q (by omega), fun _ => ⟨fun q => absurd q (by omega), fun _ => ⟨⟨by omega, by omega⟩, ?_⟩⟩⟩
      rw [zw_of (x := (i : Int) + 1) (by omega) (by omega)]
      exact ih (i + 1) (by omega)
  exact c_S_frightOf (first c 0 (by omega))
theorem k_M_frightOf {x : Int} {c g : Nat} {Q : Int → zM → Prop} (hx : 0 ≤ x ∧ x < 6) (hc : μ 1322 (10 + x) = c) (hc5 : c ≤ 5) (hg : μ 1322 2 = g) (hg12 : g ≤ 12) (h : Q (zw (zmx (fun i => μ 1322 (200 + i)) g * zmx (fun i => μ 1322 (20 + 3 * i + 1)) c)) μ) : zCi X true l d 0 0 y_M_frightOf [(13, 0, 1320), (0, 0, x)] μ Q := by
  have second : ∀ m i : Nat, i + m = c → zE X true l d 0 0 y_M_frightOf 58 [some (13, 0, 1320), some (0, 0, x), some (0, 0, zmx (fun i => μ 1322 (200 + i)) g), some (0, 0, zmx (fun i => μ 1322 (20 + 3 * i + 1)) i), some (0, 0, (i : Int))] [] μ (zri Q) := by
    have hc' : μ (1320 + 2) (10 + x) = c := hc
    intro m
    induction m with
    | zero =>
      intro i hi
      have : i = c := by omega
      subst this
      refine s_M_frightOf_58 ?_
      rw [zw_of (x := 10 + x) (by omega) (by omega), hc']
      exact ⟨⟨by omega, by omega⟩, fun _ => h, fun q => absurd (by omega) q⟩
    | succ m ih =>
      intro i hi
      refine s_M_frightOf_58 ?_
      rw [zw_of (x := 10 + x) (by omega) (by omega), hc', zw_of (x := 3 * (i : Int)) (by omega) (by omega), zw_of (x := 20 + 3 * (i : Int)) (by omega) (by omega), zw_of (x := 20 + 3 * (i : Int) + 1) (by omega) (by omega), zw_of (x := (i : Int) + 1) (by omega) (by omega), zmx_alt]
      exact ⟨⟨by omega, by omega⟩, fun q => absurd q (by omega), fun _ => ⟨⟨by omega, by omega⟩, ⟨fun _ => trivial, fun _ => ⟨by omega, by omega⟩⟩, ih (i + 1) (by omega)⟩⟩
  have first : ∀ m i : Nat, i + m = g → zE X true l d 0 0 y_M_frightOf 7 [some (13, 0, 1320), some (0, 0, x), some (0, 0, zmx (fun i => μ 1322 (200 + i)) i), some (0, 0, 0), some (0, 0, (i : Int))] [] μ (zri Q) := by
    have hg' : μ (1320 + 2) 2 = g := hg
    intro m
    induction m with
    | zero =>
      intro i hi
      have : i = g := by omega
      subst this
      refine s_M_frightOf_7 ⟨fun _ => second c 0 (by omega), fun q => absurd (by omega) q⟩
    | succ m ih =>
      intro i hi
      refine s_M_frightOf_7 ?_
      rw [hg', zw_of (x := 200 + (i : Int)) (by omega) (by omega), zw_of (x := (i : Int) + 1) (by omega) (by omega), zmx_alt]
      exact ⟨fun q => absurd q (by omega), fun _ => ⟨⟨by omega, by omega⟩, ⟨fun _ => trivial, fun _ => ⟨by omega, by omega⟩⟩, ih (i + 1) (by omega)⟩⟩
  exact c_M_frightOf (first g 0 (by omega))
theorem zInv.lasts (h : zInv LR μ) : μ 1 4 = μ 1322 2 ∧ 1 ≤ μ 1322 2 ∧ μ 1322 2 ≤ 12 := by
  have h1 := h.num 2 (by omega) (a := 0) (s := 4) (by decide) (by omega)
  exact ⟨h1, h.2.2.2.2.2.1.2.1.2.2.1⟩
theorem zInv.people (h : zInv LR μ) (p : Nat) (hp : p < 6) : μ (23 + 6 * (p : Int)) 0 = μ 1322 (10 + (p : Int)) ∧ 0 ≤ μ 1322 (10 + (p : Int)) ∧ μ 1322 (10 + (p : Int)) ≤ 5 := by
  have h1 := h.num (10 + p) (by omega) (zl_people p hp) (by omega)
  have e : (1 : Int) + ((22 + 6 * p : Nat) : Int) = 23 + 6 * (p : Int) := by omega
  rw [e] at h1
  exact ⟨h1, h.2.2.2.2.2.1.2.1.2.2.2.2.2.2.2.1 _ (by omega) (by omega)⟩
theorem p_fright {x : Int} (hL : zLRok LR) (h : zInv LR μ) (hd : 3 ≤ d) (hQ : ∀ v ρ, zInv LR ρ → Q v v ρ) : zCi X true l d 0 0 y_S_fright [(12, 0, 0), (0, 0, x)] μ (fun v ν => zCi X true l d 0 0 y_M_fright [(13, 0, 1320), (0, 0, x)] ν (fun w ρ => Q v w ρ)) := by
  have ht := h.thrown hL
  refine c_S_fright (d1 := 2) (by omega) (k_S_isPlan (fun p1 p2 => ⟨fun c => absurd c (by decide), fun _ => ?_⟩) (fun p => ⟨fun _ => c_M_fright (d1 := 2) (by omega) (k_M_isPlan (by omega) (fun p1 p2 => absurd ⟨p1, p2⟩ p) (fun _ => ⟨fun _ => hQ _ _ ht, fun c => absurd rfl c⟩)), fun c => absurd rfl c⟩))
  obtain ⟨k, rfl⟩ : ∃ k : Nat, x = k := ⟨x.toNat, by omega⟩
  obtain ⟨q1, q2, q3⟩ := h.people k (by omega)
  obtain ⟨g1, g2, g3⟩ := h.lasts
  obtain ⟨c, hc⟩ : ∃ c : Nat, μ 1322 (10 + (k : Int)) = c := ⟨(μ 1322 (10 + (k : Int))).toNat, by omega⟩
  obtain ⟨g, hg⟩ : ∃ c : Nat, μ 1322 2 = c := ⟨(μ 1322 2).toNat, by omega⟩
  have er : zup μ 1320 0 0 1322 = μ 1322 := zup_ne (by decide)
  refine k_S_frightOf (by omega) ⟨p1, p2⟩ (q1.trans hc) (by omega) (g1.trans hg) (by omega) ?_
  refine c_M_fright (d1 := 2) (by omega) (k_M_isPlan (by omega) (fun _ _ => ⟨fun c => absurd c (by decide), fun _ => k_M_frightOf ⟨p1, p2⟩ (by rw [er]; exact hc) (by omega) (by rw [er]; exact hg) (by omega) ?_⟩) (fun p => absurd ⟨p1, p2⟩ p))
  rw [er]
  have e1 : zmx (fun i => μ 1322 (200 + i)) g = zmx (μ 8) g := zfold_congr (fun i a hi => by
    have := h.num (200 + i) (by omega) (zl_size i (by omega)) (by omega)
    have e : μ 8 (i : Int) = μ 1322 (200 + (i : Int)) := this
    simp only [e])
  have e2 : zmx (fun i => μ 1322 (20 + 3 * i + 1)) c = zmx (μ 5) c := zfold_congr (fun i a hi => by
    have := h.num (20 + 3 * i + 1) (by omega) (zl_trait i (by omega) 1 (by omega)) (by omega)
    have e : μ 5 (i : Int) = μ 1322 (20 + 3 * (i : Int) + 1) := this
    simp only [e])
  rw [e1, e2, Int.mul_comm]
  exact hQ _ _ ht
/-! streets -/
theorem k_S_streetsBy {x y z : Int} {n : Nat} {Q : Int → zM → Prop} (hn : μ 15 0 = n) (hn40 : n ≤ 40) (h : Q (zfold (fun i a => if zand (zshr (μ 16 i) x) 1 = y then (if z = 0 then zw (a + 1) else zw (a + (if ¬ z = 1 then μ 17 i else μ 18 i))) else a) n) μ) : zCi X true l d 0 0 y_S_streetsBy [(12, 0, 0), (0, 0, x), (0, 0, y), (0, 0, z)] μ Q := by
  refine c_S_streetsBy ?_
  have key : ∀ m i : Nat, i + m = n → zE X true l d 0 0 y_S_streetsBy 15 [none, some (0, 0, x), some (0, 0, y), some (0, 0, z), some (8, 40, 15), some (0, 0, zfold (fun i a => if zand (zshr (μ 16 i) x) 1 = y then (if z = 0 then zw (a + 1) else zw (a + (if ¬ z = 1 then μ 17 i else μ 18 i))) else a) i), some (0, 0, (i : Int))] [] μ (zri Q) := by
    intro m
    induction m with
    | zero =>
      intro i hi
      have : i = n := by omega
      subst this
      exact s_S_streetsBy_15 ⟨fun _ => h, fun q => absurd (by omega) q⟩
    | succ m ih =>
      intro i hi
      refine s_S_streetsBy_15 ⟨fun q => absurd q (by omega), fun _ => ⟨fun q => absurd q (by omega), fun _ => ⟨⟨by omega, by omega⟩, ?_⟩⟩⟩
      have := ih (i + 1) (by omega)
      unfold zfold at this
      rw [zw_of (x := (i : Int) + 1) (by omega) (by omega)]
      refine ⟨fun (q : ¬ zand (zshr (μ 16 (i : Int)) x) 1 = y) => ?_, fun (q : zand (zshr (μ 16 (i : Int)) x) 1 = y) => ⟨fun q2 => ⟨⟨fun _ => ⟨by omega, by omega⟩, fun _ => ⟨by omega, by omega⟩⟩, ?_⟩, fun q2 => ?_⟩⟩
      · rw [if_neg q] at this; exact this
      · rw [if_pos q, if_neg q2] at this; exact this
      · rw [if_pos q, if_pos q2] at this; exact this
  exact key n 0 (by omega)
theorem k_M_streetsOf {x y z : Int} {n : Nat} {Q : Int → zM → Prop} (hn : μ 1322 5 = n) (hn40 : n ≤ 40) (h : Q (zfold (fun i a => if zand (zshr (μ 1322 (240 + 3 * i)) x) 1 = y then (if z = 0 then zw (a + 1) else zw (a + (if ¬ z = 1 then μ 1322 (240 + 3 * i + 1) else μ 1322 (240 + 3 * i + 2)))) else a) n) μ) : zCi X true l d 0 0 y_M_streetsOf [(13, 0, 1320), (0, 0, x), (0, 0, y), (0, 0, z)] μ Q := by
  refine c_M_streetsOf ?_
  have hn' : μ (1320 + 2) 5 = n := hn
  have key : ∀ m i : Nat, i + m = n → zE X true l d 0 0 y_M_streetsOf 6 [some (13, 0, 1320), some (0, 0, x), some (0, 0, y), some (0, 0, z), some (0, 0, zfold (fun i a => if zand (zshr (μ 1322 (240 + 3 * i)) x) 1 = y then (if z = 0 then zw (a + 1) else zw (a + (if ¬ z = 1 then μ 1322 (240 + 3 * i + 1) else μ 1322 (240 + 3 * i + 2)))) else a) i), some (0, 0, (i : Int)), none] [] μ (zri Q) := by
    intro m
    induction m with
    | zero =>
      intro i hi
      have : i = n := by omega
      subst this
      exact s_M_streetsOf_6 ⟨fun _ => h, fun q => absurd (by omega) q⟩
    | succ m ih =>
      intro i hi
      refine s_M_streetsOf_6 ?_
      have := ih (i + 1) (by omega)
      unfold zfold at this
      rw [hn', zw_of (x := 3 * (i : Int)) (by omega) (by omega), zw_of (x := 240 + 3 * (i : Int)) (by omega) (by omega), zw_of (x := 240 + 3 * (i : Int) + 1) (by omega) (by omega), zw_of (x := 240 + 3 * (i : Int) + 2) (by omega) (by omega), zw_of (x := (i : Int) + 1) (by omega) (by omega)]
      refine ⟨fun q => absurd q (by omega), fun _ => ⟨⟨by omega, by omega⟩, fun (q : ¬ zand (zshr (μ 1322 (240 + 3 * (i : Int))) x) 1 = y) => ?_, fun (q : zand (zshr (μ 1322 (240 + 3 * (i : Int))) x) 1 = y) => ⟨fun q2 => ⟨⟨fun _ => ⟨by omega, by omega⟩, fun _ => ⟨by omega, by omega⟩⟩, ?_⟩, fun q2 => ?_⟩⟩⟩
      · rw [if_neg q] at this; exact this
      · rw [if_pos q, if_neg q2] at this; exact this
      · rw [if_pos q, if_pos q2] at this; exact this
  exact key n 0 (by omega)
theorem zInv.street (h : zInv LR μ) : μ 15 0 = μ 1322 5 ∧ 0 ≤ μ 1322 5 ∧ μ 1322 5 ≤ 40 ∧ ∀ i : Nat, (i : Int) < μ 1322 5 → μ 16 i = μ 1322 (240 + 3 * (i : Int)) ∧ μ 17 i = μ 1322 (240 + 3 * (i : Int) + 1) ∧ μ 18 i = μ 1322 (240 + 3 * (i : Int) + 2) := by
  have h1 := h.num 5 (by omega) (a := 14) (s := 0) (by decide) (by omega)
  have hb := h.2.2.2.2.2.1.2.1.2.2.2.2.2.1
  refine ⟨h1, hb.1, hb.2, fun i hi => ?_⟩
  have key : ∀ w : Nat, w < 3 → μ (1 + ((15 + w : Nat) : Int)) i = μ 1322 ((240 + 3 * i + w : Nat) : Int) := fun w hw => by
    have e := zl_street i (by omega) w hw
    have := h.2.2.2.2.2.1.at' (240 + 3 * i + w) (by unfold zvl; rw [e]; show 14 + 1 + w < 58; omega) ⟨fun _ _ => by omega, fun _ _ => by omega, fun _ _ => by omega, fun _ => by omega⟩
    rw [e] at this
    exact this
  exact ⟨key 0 (by omega), key 1 (by omega), key 2 (by omega)⟩
/-- both sides count the same streets -/
theorem zInv.streets (h : zInv LR μ) {x y z : Int} {n : Nat} (hn : μ 1322 5 = n) : zfold (fun i a => if zand (zshr (μ 1322 (240 + 3 * i)) x) 1 = y then (if z = 0 then zw (a + 1) else zw (a + (if ¬ z = 1 then μ 1322 (240 + 3 * i + 1) else μ 1322 (240 + 3 * i + 2)))) else a) n = zfold (fun i a => if zand (zshr (μ 16 i) x) 1 = y then (if z = 0 then zw (a + 1) else zw (a + (if ¬ z = 1 then μ 17 i else μ 18 i))) else a) n :=
  zfold_congr (fun i a hi => by
    obtain ⟨e1, e2, e3⟩ := h.street.2.2.2 i (by omega)
    rw [e1, e2, e3])
theorem p_streets {x y z : Int} (hL : zLRok LR) (h : zInv LR μ) (hd : 3 ≤ d) (hQ : ∀ v ρ, zInv LR ρ → Q v v ρ) : zCi X true l d 0 0 y_S_streets [(12, 0, 0), (0, 0, x), (0, 0, y), (0, 0, z)] μ (fun v ν => zCi X true l d 0 0 y_M_streets [(13, 0, 1320), (0, 0, x), (0, 0, y), (0, 0, z)] ν (fun w ρ => Q v w ρ)) := by
  have ht := h.thrown hL
  have er : zup μ 1320 0 0 1322 = μ 1322 := zup_ne (by decide)
  obtain ⟨g1, g2, g3, g4⟩ := h.street
  obtain ⟨n, hn⟩ : ∃ c : Nat, μ 1322 5 = c := ⟨(μ 1322 5).toNat, by omega⟩
  have no : ¬ (0 ≤ x ∧ x ≤ 2 ∧ 0 ≤ y ∧ y ≤ 1 ∧ 0 ≤ z ∧ z ≤ 2) → zCi X true l d 0 0 y_M_streets [(13, 0, 1320), (0, 0, x), (0, 0, y), (0, 0, z)] μ (fun w ρ => Q (-1) w ρ) := fun p =>
    c_M_streets (d1 := 2) (by omega) (k_M_in (fun p1 p2 => ⟨fun c => absurd c (by decide), fun _ => k_M_in (fun p3 p4 => ⟨fun c => absurd c (by decide), fun _ => k_M_in (fun p5 p6 => absurd ⟨p1, p2, p3, p4, p5, p6⟩ p) (fun _ => ⟨fun _ => hQ _ _ ht, fun c => absurd rfl c⟩)⟩) (fun _ => ⟨fun _ => hQ _ _ ht, fun c => absurd rfl c⟩)⟩) (fun _ => ⟨fun _ => hQ _ _ ht, fun c => absurd rfl c⟩))
  refine c_S_streets (d1 := 2) (by omega) (k_S_within (fun p1 p2 => ⟨fun c => absurd c (by decide), fun _ => k_S_within (fun p3 p4 => ⟨fun c => absurd c (by decide), fun _ => k_S_within (fun p5 p6 => ⟨fun _ => ?_, fun c => absurd c (by decide)⟩) (fun p => ⟨fun c => absurd rfl c, fun _ => no (by omega)⟩)⟩) (fun p => ⟨fun _ => no (by omega), fun c => absurd rfl c⟩)⟩) (fun p => ⟨fun _ => no (by omega), fun c => absurd rfl c⟩))
  refine k_S_streetsBy (g1.trans hn) (by omega) ?_
  refine c_M_streets (d1 := 2) (by omega) (k_M_in (fun _ _ => ⟨fun c => absurd c (by decide), fun _ => k_M_in (fun _ _ => ⟨fun c => absurd c (by decide), fun _ => k_M_in (fun _ _ => ⟨fun c => absurd c (by decide), fun _ => k_M_streetsOf (by rw [er]; exact hn) (by omega) ?_⟩) (fun p => absurd ⟨p5, p6⟩ p)⟩) (fun p => absurd ⟨p3, p4⟩ p)⟩) (fun p => absurd ⟨p1, p2⟩ p))
  rw [er, h.streets hn]
  exact hQ _ _ ht
/-! tale -/
theorem k_S_tale64 {x1 x2 x3 x4 : Int} {n : Nat} {Q : Int → zM → Prop} (hn : μ 19 0 = n) (hn40 : n ≤ 40) (h : Q (zw ((zw ((if x1 ≤ zfold (fun i a => zw (a + (if μ 20 i < x2 then 0 else 1))) n then (0 : Int) else 1) + (if zfold (fun i a => zw (a + μ 21 i)) n = x3 then (0 : Int) else 2))) + (if zfold (fun i a => zw (a + μ 22 i)) n ≤ x4 then (0 : Int) else 4))) μ) : zE X true l d 0 0 y_S_tale 64 [none, some (0, 0, x1), some (0, 0, x2), some (0, 0, x3), some (0, 0, x4), some (8, 40, 19), some (0, 0, 0), some (0, 0, 0), some (0, 0, 0), some (0, 0, 0)] [] μ (zri Q) := by
  have key : ∀ m i : Nat, i + m = n → zE X true l d 0 0 y_S_tale 64 [none, some (0, 0, x1), some (0, 0, x2), some (0, 0, x3), some (0, 0, x4), some (8, 40, 19), some (0, 0, zfold (fun i a => zw (a + (if μ 20 i < x2 then 0 else 1))) i), some (0, 0, zfold (fun i a => zw (a + μ 21 i)) i), some (0, 0, zfold (fun i a => zw (a + μ 22 i)) i), some (0, 0, (i : Int))] [] μ (zri Q) := by
    intro m
    induction m with
    | zero =>
      intro i hi
      have : i = n := by omega
      subst this
      exact s_S_tale_64 ⟨fun _ => s_S_tale_135 h, fun q => absurd (by omega) q⟩
    | succ m ih =>
      intro i hi
      refine s_S_tale_64 ⟨fun q => absurd q (by omega), fun _ => ⟨fun q => absurd q (by omega), fun _ => ⟨⟨by omega, by omega⟩, ⟨by omega, by omega⟩, ⟨by omega, by omega⟩, ?_⟩⟩⟩
      rw [zw_of (x := (i : Int) + 1) (by omega) (by omega)]
      exact ih (i + 1) (by omega)
  exact key n 0 (by omega)
theorem k_M_tale68 {x1 x2 x3 x4 : Int} {n : Nat} {Q : Int → zM → Prop} (hn : μ 1322 6 = n) (hn40 : n ≤ 40) (h : Q (zw ((zw ((if x1 ≤ zfold (fun i a => zw (a + (if μ 1322 (360 + 3 * i) < x2 then 0 else 1))) n then (0 : Int) else 1) + (if zfold (fun i a => zw (a + μ 1322 (360 + 3 * i + 1))) n = x3 then (0 : Int) else 2))) + (if zfold (fun i a => zw (a + μ 1322 (360 + 3 * i + 2))) n ≤ x4 then (0 : Int) else 4))) μ) : zE X true l d 0 0 y_M_tale 68 [some (13, 0, 1320), some (0, 0, x1), some (0, 0, x2), some (0, 0, x3), some (0, 0, x4), some (0, 0, 0), some (0, 0, 0), some (0, 0, 0), some (0, 0, 0), none] [] μ (zri Q) := by
  have hn' : μ (1320 + 2) 6 = n := hn
  have key : ∀ m i : Nat, i + m = n → zE X true l d 0 0 y_M_tale 68 [some (13, 0, 1320), some (0, 0, x1), some (0, 0, x2), some (0, 0, x3), some (0, 0, x4), some (0, 0, zfold (fun i a => zw (a + (if μ 1322 (360 + 3 * i) < x2 then 0 else 1))) i), some (0, 0, zfold (fun i a => zw (a + μ 1322 (360 + 3 * i + 1))) i), some (0, 0, zfold (fun i a => zw (a + μ 1322 (360 + 3 * i + 2))) i), some (0, 0, (i : Int)), none] [] μ (zri Q) := by
    intro m
    induction m with
    | zero =>
      intro i hi
      have : i = n := by omega
      subst this
      exact s_M_tale_68 ⟨fun _ => h, fun q => absurd (by omega) q⟩
    | succ m ih =>
      intro i hi
      refine s_M_tale_68 ?_
      rw [hn', zw_of (x := 3 * (i : Int)) (by omega) (by omega), zw_of (x := 360 + 3 * (i : Int)) (by omega) (by omega), zw_of (x := 360 + 3 * (i : Int) + 1) (by omega) (by omega), zw_of (x := 360 + 3 * (i : Int) + 2) (by omega) (by omega), zw_of (x := (i : Int) + 1) (by omega) (by omega)]
      exact ⟨fun q => absurd q (by omega), fun _ => ⟨⟨by omega, by omega⟩, ⟨by omega, by omega⟩, ⟨by omega, by omega⟩, ih (i + 1) (by omega)⟩⟩
  exact key n 0 (by omega)
theorem zInv.window (h : zInv LR μ) : μ 19 0 = μ 1322 6 ∧ 0 ≤ μ 1322 6 ∧ μ 1322 6 ≤ 40 ∧ ∀ i : Nat, (i : Int) < μ 1322 6 → μ 20 i = μ 1322 (360 + 3 * (i : Int)) ∧ μ 21 i = μ 1322 (360 + 3 * (i : Int) + 1) ∧ μ 22 i = μ 1322 (360 + 3 * (i : Int) + 2) := by
  have h1 := h.num 6 (by omega) (a := 18) (s := 0) (by decide) (by omega)
  have hb := h.2.2.2.2.2.1.2.1.2.2.2.2.2.2.1
  refine ⟨h1, hb.1, hb.2, fun i hi => ?_⟩
  have key : ∀ w : Nat, w < 3 → μ (1 + ((19 + w : Nat) : Int)) i = μ 1322 ((360 + 3 * i + w : Nat) : Int) := fun w hw => by
    have e := zl_window i (by omega) w hw
    have := h.2.2.2.2.2.1.at' (360 + 3 * i + w) (by unfold zvl; rw [e]; show 18 + 1 + w < 58; omega) ⟨fun _ _ => by omega, fun _ _ => by omega, fun _ _ => by omega, fun _ => by omega⟩
    rw [e] at this
    exact this
  exact ⟨key 0 (by omega), key 1 (by omega), key 2 (by omega)⟩
theorem p_tale {x1 x2 x3 x4 : Int} (hL : zLRok LR) (h : zInv LR μ) (hd : 3 ≤ d) (hQ : ∀ v ρ, zInv LR ρ → Q v v ρ) : zCi X true l d 0 0 y_S_tale [(12, 0, 0), (0, 0, x1), (0, 0, x2), (0, 0, x3), (0, 0, x4)] μ (fun v ν => zCi X true l d 0 0 y_M_tale [(13, 0, 1320), (0, 0, x1), (0, 0, x2), (0, 0, x3), (0, 0, x4)] ν (fun w ρ => Q v w ρ)) := by
  have ht := h.thrown hL
  have er : zup μ 1320 0 0 1322 = μ 1322 := zup_ne (by decide)
  obtain ⟨g1, g2, g3, g4⟩ := h.window
  obtain ⟨n, hn⟩ : ∃ c : Nat, μ 1322 6 = c := ⟨(μ 1322 6).toNat, by omega⟩
  have no : ¬ (0 ≤ x1 ∧ x1 ≤ 40 ∧ 0 ≤ x2 ∧ x2 ≤ 9 ∧ 0 ≤ x3 ∧ x3 ≤ 40 ∧ 0 ≤ x4 ∧ x4 ≤ 40) → zCi X true l d 0 0 y_M_tale [(13, 0, 1320), (0, 0, x1), (0, 0, x2), (0, 0, x3), (0, 0, x4)] μ (fun w ρ => Q (-1) w ρ) := fun p =>
    c_M_tale (d1 := 2) (by omega) (k_M_in (fun p1 p2 => ⟨fun c => absurd c (by decide), fun _ => k_M_in (fun p3 p4 => ⟨fun c => absurd c (by decide), fun _ => k_M_in (fun p5 p6 => ⟨fun c => absurd c (by decide), fun _ => k_M_in (fun p7 p8 => absurd ⟨p1, p2, p3, p4, p5, p6, p7, p8⟩ p) (fun _ => ⟨fun c => absurd rfl c, fun _ => hQ _ _ ht⟩)⟩) (fun _ => ⟨fun _ => hQ _ _ ht, fun c => absurd rfl c⟩)⟩) (fun _ => ⟨fun _ => hQ _ _ ht, fun c => absurd rfl c⟩)⟩) (fun _ => ⟨fun _ => hQ _ _ ht, fun c => absurd rfl c⟩))
  refine c_S_tale (d1 := 2) (by omega) (k_S_within (fun p1 p2 => ⟨fun c => absurd c (by decide), fun _ => k_S_within (fun p3 p4 => ⟨fun c => absurd c (by decide), fun _ => k_S_within (fun p5 p6 => ⟨fun c => absurd c (by decide), fun _ => k_S_within (fun p7 p8 => ⟨fun _ => ?_, fun c => absurd c (by decide)⟩) (fun p => ⟨fun c => absurd rfl c, fun _ => no (by omega)⟩)⟩) (fun p => ⟨fun _ => no (by omega), fun c => absurd rfl c⟩)⟩) (fun p => ⟨fun _ => no (by omega), fun c => absurd rfl c⟩)⟩) (fun p => ⟨fun _ => no (by omega), fun c => absurd rfl c⟩))
  refine k_S_tale64 (g1.trans hn) (by omega) ?_
  refine c_M_tale (d1 := 2) (by omega) (k_M_in (fun _ _ => ⟨fun c => absurd c (by decide), fun _ => k_M_in (fun _ _ => ⟨fun c => absurd c (by decide), fun _ => k_M_in (fun _ _ => ⟨fun c => absurd c (by decide), fun _ => k_M_in (fun _ _ => ⟨fun _ => k_M_tale68 (by rw [er]; exact hn) (by omega) ?_, fun c => absurd c (by decide)⟩) (fun p => absurd ⟨p7, p8⟩ p)⟩) (fun p => absurd ⟨p5, p6⟩ p)⟩) (fun p => absurd ⟨p3, p4⟩ p)⟩) (fun p => absurd ⟨p1, p2⟩ p))
  rw [er]
  have e1 : zfold (fun i a => zw (a + (if μ 1322 (360 + 3 * i) < x2 then 0 else 1))) n = zfold (fun i a => zw (a + (if μ 20 i < x2 then 0 else 1))) n := zfold_congr (fun i a hi => by rw [(g4 i (by omega)).1])
  have e2 : zfold (fun i a => zw (a + μ 1322 (360 + 3 * i + 1))) n = zfold (fun i a => zw (a + μ 21 i)) n := zfold_congr (fun i a hi => by rw [(g4 i (by omega)).2.1])
  have e3 : zfold (fun i a => zw (a + μ 1322 (360 + 3 * i + 2))) n = zfold (fun i a => zw (a + μ 22 i)) n := zfold_congr (fun i a hi => by rw [(g4 i (by omega)).2.2])
  rw [e1, e2, e3]
  exact hQ _ _ ht
end

/-! law: what the reference's code and pile tell, put together -/
def zcl9 (x : (Int → Int) × (Int → Int) × Nat) (c : Nat) (w : zSem) (D : Nat) : Prop := zTl (fun i => zMk (x.1 i)) (fun i => zMa (x.1 i) (x.2.1 i)) c x.2.2 w D
theorem zcl9.keep {x y : (Int → Int) × (Int → Int) × Nat} {c : Nat} {w : zSem} {D : Nat} {e : Int} (h : zTl (fun i => zMk (x.1 i)) (fun i => zMa (x.1 i) (x.2.1 i)) c e w D) (k : ∀ j : Int, (c : Int) ≤ j → j < e → y.1 j = x.1 j ∧ y.2.1 j = x.2.1 j) : zTl (fun i => zMk (y.1 i)) (fun i => zMa (y.1 i) (y.2.1 i)) c e w D := zTl.keep h (fun i h1 h2 => by
  have := k i h1 h2
  exact ⟨by show zMk (y.1 i) = zMk (x.1 i); rw [this.1], by show zMa (y.1 i) (y.2.1 i) = zMa (x.1 i) (x.2.1 i); rw [this.1, this.2]⟩)
def zPt (md : Nat) (bm : Int) (c h lv : Nat) (O A P B : Int → Int) (q' c' m lv' : Nat) (O' A' P' B' : Int → Int) (w : zSem) : Prop :=
  (∀ j : Int, j < h → P' j = P j ∧ B' j = B j) ∧ (∀ j : Int, (h : Int) ≤ j → j < ((h + m : Nat) : Int) → bm ≤ zbi (P' j) ∧ (0 ≤ B' j ∧ B' j < 400) ∧ 20 ≤ P' j) ∧ c' + (h + m) ≤ q' ∧ c < (zVp P' B' m h (O', A', c')).2.2 ∧ (∀ j : Int, j < c → (zVp P' B' m h (O', A', c')).1 j = O j ∧ (zVp P' B' m h (O', A', c')).2.1 j = A j) ∧ zGd md w ∧ ∃ D : Nat, 1 ≤ D ∧ D + lv ≤ lv' ∧ zcl9 (zVp P' B' m h (O', A', c')) c w D
theorem zPt.mono {md md' : Nat} {bm bm' : Int} {c h lv : Nat} {O A P B : Int → Int} {q' c' m lv' : Nat} {O' A' P' B' : Int → Int} {w : zSem} (k : zPt md bm c h lv O A P B q' c' m lv' O' A' P' B' w) (hb : bm' ≤ bm) (hm : md < 5 ↔ md' < 5) : zPt md' bm' c h lv O A P B q' c' m lv' O' A' P' B' w := by
  obtain ⟨k1, k2, k3, k4, k5, k6, k7⟩ := k
  exact ⟨k1, fun j a b => ⟨by have := (k2 j a b).1; omega, (k2 j a b).2⟩, k3, k4, k5, k6.cv hm, k7⟩
theorem zPt.vd {md : Nat} {bm : Int} {c h lv : Nat} {O A P B : Int → Int} {q' c' m lv' : Nat} {O' A' P' B' : Int → Int} {w : zSem} (k : zPt md bm c h lv O A P B q' c' m lv' O' A' P' B' w) (hq : q' ≤ 400) (hB : ∀ j : Int, 0 ≤ j → j < h → 0 ≤ B j ∧ B j < 400) : zVd c' (h + m) B' := by
  obtain ⟨k1, k2, k3, k4, k5, k6, k7⟩ := k
  refine ⟨by omega, fun j a b => ?_⟩
  by_cases e : j < h
  · rw [(k1 j e).2]; exact hB j a e
  · exact (k2 j (by omega) b).2.1
theorem zPt.lo {md : Nat} {bm : Int} {c h lv : Nat} {O A P B : Int → Int} {q' c' m lv' : Nat} {O' A' P' B' : Int → Int} {w : zSem} (k : zPt md bm c h lv O A P B q' c' m lv' O' A' P' B' w) : ∀ j : Int, (h : Int) ≤ j → j < ((h + m : Nat) : Int) → 20 ≤ P' j := fun j a b => (k.2.1 j a b).2.2
theorem zbi_20 {op : Int} (h : 5 ≤ zbi op) (h2 : 20 ≤ op) : 20 ≤ op ∧ op ≤ 23 := by
  have := (zbi_rng (op := op)).2.1 h
  omega
theorem zsu_hit {σ : Int → Int} {i v : Int} : zsu σ i v i = v := by unfold zsu; rw [if_pos rfl]
theorem zsu_miss {σ : Int → Int} {i v j : Int} (h : j ≠ i) : zsu σ i v j = σ j := by unfold zsu; rw [if_neg h]
theorem zMk_op {op : Int} (h1 : 20 ≤ op) (h2 : op < 27) : zMk op = op - 18 := by
  unfold zMk
  rw [if_neg (by omega), if_neg (by omega), if_pos h2]
section
variable {md md1 md2 : Nat} {bm bm1 bm2 : Int} {c h lv0 : Nat} {O A P B : Int → Int} {q c1 m1 lv : Nat} {O1 A1 P1 B1 : Int → Int} {a : zSem} {q2 c2 m2 lv2 : Nat} {O2 A2 P2 B2 : Int → Int} {w : zSem}
theorem zPt.bin {op : Int} (hop : 20 ≤ op) (hop2 : op < 27) (h1 : zPt md1 bm1 c h lv0 O A P B q c1 m1 lv O1 A1 P1 B1 a) (h2 : zPt md2 bm2 (zVp P1 B1 m1 h (O1, A1, c1)).2.2 (h + 1) lv (zVp P1 B1 m1 h (O1, A1, c1)).1 (zVp P1 B1 m1 h (O1, A1, c1)).2.1 (zsu P1 h op) (zsu B1 h 0) q2 c2 m2 lv2 O2 A2 P2 B2 w) (hb : bm ≤ zbi op) (hb2 : bm ≤ bm2) (hκ : 5 ≤ md → 24 ≤ op) : zPt md bm c h lv0 O A P B q2 c2 (m2 + 1) lv2 O2 A2 P2 B2 (zj2 (op - 18) a w) := by
  obtain ⟨a1, a2, a3, a4, a5, a6, D1, a7, a8, a9⟩ := h1
  obtain ⟨b1, b2, b3, b4, b5, b6, D2, b7, b8, b9⟩ := h2
  have eP : P2 h = op := by rw [(b1 h (by omega)).1]; exact zsu_hit
  have eB : B2 h = 0 := by rw [(b1 h (by omega)).2]; exact zsu_hit
  have eV : zVp P2 B2 (m2 + 1) h (O2, A2, c2) = (zsu (zVp P2 B2 m2 (h + 1) (O2, A2, c2)).1 (zVp P2 B2 m2 (h + 1) (O2, A2, c2)).2.2 op, zsu (zVp P2 B2 m2 (h + 1) (O2, A2, c2)).2.1 (zVp P2 B2 m2 (h + 1) (O2, A2, c2)).2.2 0, (zVp P2 B2 m2 (h + 1) (O2, A2, c2)).2.2 + 1) := by
    show zpp (P2 h) (B2 h) (zVp P2 B2 m2 (h + 1) (O2, A2, c2)) = _
    rw [eP]; unfold zpp; rw [if_neg (by omega)]
  refine ⟨fun j hj => ?_, fun j hj hj2 => ?_, by omega, ?_, fun j hj => ?_, zGd.j2 (fun z => by have := hκ z; omega), max D1 (D2 + 1), by omega, by omega, ?_⟩
  · have := b1 j (by omega)
    rw [zsu_miss (by omega), zsu_miss (by omega)] at this
    exact ⟨this.1.trans (a1 j hj).1, this.2.trans (a1 j hj).2⟩
  · by_cases e : j = h
    · rw [e, eP, eB]; exact ⟨hb, by omega⟩
    · have := b2 j (by omega) (by omega)
      exact ⟨by omega, this.2⟩
  · rw [eV]; show c < _ + 1; omega
  · rw [eV]
    show zsu _ _ op j = _ ∧ zsu _ _ 0 j = _
    rw [zsu_miss (by omega), zsu_miss (by omega), (b5 j (by omega)).1, (b5 j (by omega)).2]
    exact a5 j hj
  · rw [eV]
    have z1 : zcl9 _ c a D1 := a9
    have z2 : zcl9 _ _ w D2 := b9
    generalize zVp P1 B1 m1 h (O1, A1, c1) = x at *
    generalize zVp P2 B2 m2 (h + 1) (O2, A2, c2) = y at *
    intro F hF
    have y1 := (zcl9.keep (y := (zsu y.1 y.2.2 op, zsu y.2.1 y.2.2 0, y.2.2 + 1)) z1 (fun j e1 e2 => by
      show zsu y.1 y.2.2 op j = _ ∧ zsu y.2.1 y.2.2 0 j = _
      rw [zsu_miss (by omega), zsu_miss (by omega)]; exact b5 j e2)) F hF
    have y2 := (zcl9.keep (y := (zsu y.1 y.2.2 op, zsu y.2.1 y.2.2 0, y.2.2 + 1)) z2 (fun j e1 e2 => by
      show zsu y.1 y.2.2 op j = _ ∧ zsu y.2.1 y.2.2 0 j = _
      rw [zsu_miss (by omega), zsu_miss (by omega)]; exact ⟨rfl, rfl⟩)) F hF
    have ek : zMk (zsu y.1 y.2.2 op y.2.2) = op - 18 := by rw [zsu_hit]; exact zMk_op hop hop2
    have := zS5.bin y1 y2 (by omega) (by omega) (by show 2 ≤ zMk (zsu y.1 y.2.2 op y.2.2); omega) (by show zMk (zsu y.1 y.2.2 op y.2.2) < 9; omega) b7 (a6.b9 hF) (b6.b9 hF)
    have e : zjo (zMk (zsu y.1 y.2.2 op y.2.2)) (a F) (w F) = zj2 (op - 18) a w F := by rw [ek]; rfl
    rw [← e]
    exact this
theorem zPt.aor {op : Int} (hop : op = 28 ∨ op = 29) (h1 : zPt md1 bm1 c h lv0 O A P B q c1 m1 lv O1 A1 P1 B1 a) (h2 : zPt md2 bm2 ((zVp P1 B1 m1 h (O1, A1, c1)).2.2 + 1) (h + 1) lv (zsu (zVp P1 B1 m1 h (O1, A1, c1)).1 (zVp P1 B1 m1 h (O1, A1, c1)).2.2 op) (zsu (zVp P1 B1 m1 h (O1, A1, c1)).2.1 (zVp P1 B1 m1 h (O1, A1, c1)).2.2 0) (zsu P1 h op) (zsu B1 h (zVp P1 B1 m1 h (O1, A1, c1)).2.2) q2 c2 m2 lv2 O2 A2 P2 B2 w) (hq : q < 400) (hb : bm ≤ zbi op) (hb2 : bm ≤ bm2) (hm1 : md1 < 5 ↔ md < 5) (hm2 : md2 < 5 ↔ md < 5) : zPt md bm c h lv0 O A P B q2 c2 (m2 + 1) lv2 O2 A2 P2 B2 (zao (zMk op) a w) := by
  obtain ⟨a1, a2, a3, a4, a5, a6, D1, a7, a8, a9⟩ := h1
  obtain ⟨b1, b2, b3, b4, b5, b6, D2, b7, b8, b9⟩ := h2
  have vc := zVp_c (P := P1) (B := B1) (x := (O1, A1, c1)) m1 h
  have vc1 : (zVp P1 B1 m1 h (O1, A1, c1)).2.2 ≤ c1 + m1 := vc.2
  generalize zVp P1 B1 m1 h (O1, A1, c1) = x at *
  have eP : P2 h = op := by rw [(b1 h (by omega)).1]; exact zsu_hit
  have eB : B2 h = x.2.2 := by rw [(b1 h (by omega)).2]; exact zsu_hit
  have eV : zVp P2 B2 (m2 + 1) h (O2, A2, c2) = ((zVp P2 B2 m2 (h + 1) (O2, A2, c2)).1, zsu (zVp P2 B2 m2 (h + 1) (O2, A2, c2)).2.1 x.2.2 (zVp P2 B2 m2 (h + 1) (O2, A2, c2)).2.2, (zVp P2 B2 m2 (h + 1) (O2, A2, c2)).2.2) := by
    show zpp (P2 h) (B2 h) (zVp P2 B2 m2 (h + 1) (O2, A2, c2)) = _
    rw [eP, eB]; unfold zpp; rw [if_pos hop]
  generalize zVp P2 B2 m2 (h + 1) (O2, A2, c2) = y at *
  refine ⟨fun j hj => ?_, fun j hj hj2 => ?_, by omega, ?_, fun j hj => ?_, (a6.cv hm1).ao (b6.cv hm2), max D1 D2, by omega, by omega, ?_⟩
  · have := b1 j (by omega)
    rw [zsu_miss (by omega), zsu_miss (by omega)] at this
    exact ⟨this.1.trans (a1 j hj).1, this.2.trans (a1 j hj).2⟩
  · by_cases e : j = h
    · rw [e, eP, eB]; exact ⟨hb, by omega⟩
    · have := b2 j (by omega) (by omega)
      exact ⟨by omega, this.2⟩
  · rw [eV]; show c < y.2.2; omega
  · rw [eV]
    show y.1 j = _ ∧ zsu y.2.1 x.2.2 y.2.2 j = _
    have := b5 j (by omega)
    rw [zsu_miss (by omega), zsu_miss (by omega)] at this
    rw [zsu_miss (by omega), this.1, this.2]
    exact a5 j hj
  · rw [eV]
    have z1 : zcl9 x c a D1 := a9
    have z2 : zcl9 y _ w D2 := b9
    intro F hF
    have y1 := (zcl9.keep (y := (y.1, zsu y.2.1 x.2.2 y.2.2, y.2.2)) z1 (fun j e1 e2 => by
      show y.1 j = _ ∧ zsu y.2.1 x.2.2 y.2.2 j = _
      have := b5 j (by omega)
      rw [zsu_miss (by omega), zsu_miss (by omega)] at this
      rw [zsu_miss (by omega)]; exact this)) F hF
    have y2 := (zcl9.keep (y := (y.1, zsu y.2.1 x.2.2 y.2.2, y.2.2)) z2 (fun j e1 e2 => by
      show y.1 j = _ ∧ zsu y.2.1 x.2.2 y.2.2 j = _
      rw [zsu_miss (by omega)]; exact ⟨rfl, rfl⟩)) F hF
    have eo : y.1 x.2.2 = op := by
      have := (b5 x.2.2 (by omega)).1
      rw [zsu_hit] at this
      exact this
    have ek : zMk (y.1 x.2.2) = zMk op := by rw [eo]
    have em : zMa (y.1 x.2.2) (zsu y.2.1 x.2.2 y.2.2 x.2.2) = y.2.2 := by
      rw [eo, zsu_hit]
      unfold zMa
      rw [if_neg (by omega), if_neg (by omega)]
    have e1011 : zMk op = 10 ∨ zMk op = 11 := by rcases hop with e | e <;> rw [e] <;> decide
    have := zS5.aor y1 y2 (by omega) (by omega) (by show zMk (y.1 x.2.2) = 10 ∨ zMk (y.1 x.2.2) = 11; rw [ek]; exact e1011) em a7
    have e : zaq (zMk (y.1 x.2.2)) (a F) (w F) = zao (zMk op) a w F := by rw [ek]; rfl
    rw [← e]
    exact this
theorem zPt.neg (h2 : zPt 5 bm2 c (h + 1) lv O A (zsu P h 27) (zsu B h 0) q2 c2 m2 lv2 O2 A2 P2 B2 w) (hb : bm ≤ 3) (hb2 : bm ≤ bm2) : zPt 5 bm c h lv O A P B q2 c2 (m2 + 1) lv2 O2 A2 P2 B2 (zno w) := by
  obtain ⟨b1, b2, b3, b4, b5, b6, D2, b7, b8, b9⟩ := h2
  have eP : P2 h = 27 := by rw [(b1 h (by omega)).1]; exact zsu_hit
  have eB : B2 h = 0 := by rw [(b1 h (by omega)).2]; exact zsu_hit
  have eV : zVp P2 B2 (m2 + 1) h (O2, A2, c2) = (zsu (zVp P2 B2 m2 (h + 1) (O2, A2, c2)).1 (zVp P2 B2 m2 (h + 1) (O2, A2, c2)).2.2 27, zsu (zVp P2 B2 m2 (h + 1) (O2, A2, c2)).2.1 (zVp P2 B2 m2 (h + 1) (O2, A2, c2)).2.2 0, (zVp P2 B2 m2 (h + 1) (O2, A2, c2)).2.2 + 1) := by
    show zpp (P2 h) (B2 h) (zVp P2 B2 m2 (h + 1) (O2, A2, c2)) = _
    rw [eP]; unfold zpp; rw [if_neg (by decide)]
  generalize zVp P2 B2 m2 (h + 1) (O2, A2, c2) = y at *
  refine ⟨fun j hj => ?_, fun j hj hj2 => ?_, by omega, ?_, fun j hj => ?_, b6.no, D2, b7, b8, ?_⟩
  · have := b1 j (by omega)
    rw [zsu_miss (by omega), zsu_miss (by omega)] at this
    exact this
  · by_cases e : j = h
    · rw [e, eP, eB]; exact ⟨Int.le_trans hb (by decide), by omega⟩
    · have := b2 j (by omega) (by omega)
      exact ⟨by omega, this.2⟩
  · rw [eV]; show c < y.2.2 + 1; omega
  · rw [eV]
    show zsu y.1 y.2.2 27 j = _ ∧ zsu y.2.1 y.2.2 0 j = _
    rw [zsu_miss (by omega), zsu_miss (by omega)]
    exact b5 j hj
  · rw [eV]
    have z2 : zcl9 y _ w D2 := b9
    intro F hF
    have y2 := (zcl9.keep (y := (zsu y.1 y.2.2 27, zsu y.2.1 y.2.2 0, y.2.2 + 1)) z2 (fun j e1 e2 => by
      show zsu y.1 y.2.2 27 j = _ ∧ zsu y.2.1 y.2.2 0 j = _
      rw [zsu_miss (by omega), zsu_miss (by omega)]; exact ⟨rfl, rfl⟩)) F hF
    exact zS5.neg y2 (by omega) (by show zMk (zsu y.1 y.2.2 27 y.2.2) = 9; rw [zsu_hit]; decide) b7 (b6.b9 hF)
end
/-- where a part of the grammar ends -/
theorem zPp_stop {T : Int → Int} {L : Nat} : ∀ (n md dp q lv : Nat) (a : zSem) (q' lv' : Nat) (w : zSem), zPp T L n md dp q lv a = some (q', lv', some w) →
    (md = 1 ∨ md = 2 → ¬ zsg T L q' 42 ∧ ¬ zsg T L q' 47) ∧ (md = 3 → zno4 T L q') ∧ (md = 4 → ¬ zsg T L q 42 → ¬ zsg T L q 47 → zno4 T L q') ∧ (md = 6 ∨ md = 7 → ¬ ziw T L q' 1476) ∧ (md = 8 → ¬ ziw T L q' 1476 ∧ ¬ ziw T L q' 498) ∧ (md = 9 → ¬ ziw T L q 1476 → ¬ ziw T L q' 1476 ∧ ¬ ziw T L q' 498) := by
  intro n
  induction n with
  | zero => intro md dp q lv a q' lv' w h; exact absurd h (by intro e; cases e)
  | succ n ih =>
    intro md dp q lv a q' lv' w h
    refine ⟨fun hm => ?_, fun hm => ?_, fun hm n42 n47 => ?_, fun hm => ?_, fun hm => ?_, fun hm n0 => ?_⟩
    · rcases hm with rfl | rfl
      · rw [zPp_1] at h
        rcases zbd_some h with ⟨q1, lv1, e1, e2⟩ | ⟨q1, lv1, w1, e1, e2⟩
        · cases e2
        · exact (ih _ _ _ _ _ _ _ _ e2).1 (Or.inr rfl)
      · rw [zPp_2] at h
        split at h
        · rcases zbd_some h with ⟨q1, lv1, e1, e2⟩ | ⟨q1, lv1, w1, e1, e2⟩
          · cases e2
          · exact (ih _ _ _ _ _ _ _ _ e2).1 (Or.inr rfl)
        · rename_i c
          cases h
          exact ⟨fun z => c ⟨z.1, Or.inl z.2⟩, fun z => c ⟨z.1, Or.inr z.2⟩⟩
    · subst hm
      rw [zPp_3] at h
      rcases zbd_some h with ⟨q1, lv1, e1, e2⟩ | ⟨q1, lv1, w1, e1, e2⟩
      · cases e2
      · have i1 := (ih _ _ _ _ _ _ _ _ e1).1 (Or.inl rfl)
        exact (ih _ _ _ _ _ _ _ _ e2).2.2.1 rfl i1.1 i1.2
    · subst hm
      rw [zPp_4] at h
      split at h
      · rcases zbd_some h with ⟨q1, lv1, e1, e2⟩ | ⟨q1, lv1, w1, e1, e2⟩
        · cases e2
        · have i1 := (ih _ _ _ _ _ _ _ _ e1).1 (Or.inl rfl)
          exact (ih _ _ _ _ _ _ _ _ e2).2.2.1 rfl i1.1 i1.2
      · rename_i c
        cases h
        exact ⟨fun z => c ⟨z.1, Or.inl z.2⟩, fun z => c ⟨z.1, Or.inr z.2⟩, n42, n47⟩
    · rcases hm with rfl | rfl
      · rw [zPp_6] at h
        rcases zbd_some h with ⟨q1, lv1, e1, e2⟩ | ⟨q1, lv1, w1, e1, e2⟩
        · cases e2
        · exact (ih _ _ _ _ _ _ _ _ e2).2.2.2.1 (Or.inr rfl)
      · rw [zPp_7] at h
        split at h
        · rcases zbd_some h with ⟨q1, lv1, e1, e2⟩ | ⟨q1, lv1, w1, e1, e2⟩
          · cases e2
          · exact (ih _ _ _ _ _ _ _ _ e2).2.2.2.1 (Or.inr rfl)
        · rename_i c
          cases h
          exact c
    · subst hm
      rw [zPp_8] at h
      rcases zbd_some h with ⟨q1, lv1, e1, e2⟩ | ⟨q1, lv1, w1, e1, e2⟩
      · cases e2
      · have i1 := (ih _ _ _ _ _ _ _ _ e1).2.2.2.1 (Or.inl rfl)
        exact (ih _ _ _ _ _ _ _ _ e2).2.2.2.2.2 rfl i1
    · subst hm
      rw [zPp_9] at h
      split at h
      · rcases zbd_some h with ⟨q1, lv1, e1, e2⟩ | ⟨q1, lv1, w1, e1, e2⟩
        · cases e2
        · have i1 := (ih _ _ _ _ _ _ _ _ e1).2.2.2.1 (Or.inl rfl)
          exact (ih _ _ _ _ _ _ _ _ e2).2.2.2.2.2 rfl i1
      · rename_i c
        cases h
        exact ⟨n0, c⟩

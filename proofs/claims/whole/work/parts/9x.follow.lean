/-! law: the reference's reader follows the grammar -/
def zbm (md : Nat) : Int := if md = 0 then 7 else if md < 3 then 6 else if md < 5 then 5 else if md = 5 then 3 else if md < 8 then 2 else 1
def zbw (md : Nat) : Int := if md = 0 then 99 else if md < 3 then 6 else if md < 6 then 5 else if md < 8 then 2 else 1
def zcx (t : Int) (P : Int → Int) (h : Nat) : Prop := zinn P h = 30 ∨ (zinn P h = -1 ∧ t ≠ 0)
theorem zinn_congr {P P' : Int → Int} : ∀ h : Nat, (∀ j : Int, j < h → P' j = P j) → zinn P' h = zinn P h
  | 0, _ => rfl
  | h + 1, e => by
    show (if P' h < 30 then zinn P' h else P' h) = (if P h < 30 then zinn P h else P h)
    rw [e h (by omega), zinn_congr h (fun j hj => e j (by omega))]
theorem zcom_congr {P P' : Int → Int} : ∀ h : Nat, (∀ j : Int, j < h → P' j = P j) → zcom P' h = zcom P h
  | 0, _ => rfl
  | h + 1, e => by
    show (if 20 ≤ P' h ∧ P' h ≤ 23 then zcom P' h else decide (24 ≤ P' h ∧ P' h ≤ 26)) = (if 20 ≤ P h ∧ P h ≤ 23 then zcom P h else decide (24 ≤ P h ∧ P h ≤ 26))
    rw [e h (by omega), zcom_congr h (fun j hj => e j (by omega))]
theorem zinn_su {P : Int → Int} {h : Nat} {op : Int} : zinn (zsu P h op) (h + 1) = if op < 30 then zinn P h else op := by
  show (if zsu P h op h < 30 then zinn (zsu P h op) h else zsu P h op h) = _
  rw [zsu_hit, zinn_congr h (fun j hj => zsu_miss (by omega))]
theorem zcom_su {P : Int → Int} {h : Nat} {op : Int} (ho : 23 < op) : zcom (zsu P h op) (h + 1) = decide (24 ≤ op ∧ op ≤ 26) := by
  show (if 20 ≤ zsu P h op h ∧ zsu P h op h ≤ 23 then zcom (zsu P h op) h else decide (24 ≤ zsu P h op h ∧ zsu P h op h ≤ 26)) = _
  rw [zsu_hit, if_neg (by omega)]
theorem zbw_su {P : Int → Int} {h : Nat} {op b : Int} (ho : zbi op < b) : h + 1 = 0 ∨ zbi (zsu P h op (((h + 1 : Nat) : Int) - 1)) < b := Or.inr (by rw [show ((h + 1 : Nat) : Int) - 1 = h by omega, zsu_hit]; exact ho)
theorem zB_su {B : Int → Int} {h : Nat} {b : Int} (hB : ∀ j : Int, 0 ≤ j → j < h → 0 ≤ B j ∧ B j < 400) (hb : 0 ≤ b ∧ b < 400) : ∀ j : Int, 0 ≤ j → j < ((h + 1 : Nat) : Int) → 0 ≤ zsu B h b j ∧ zsu B h b j < 400 := fun j h0 h1 => by
  by_cases e : j = h
  · rw [e, zsu_hit]; exact hb
  · rw [zsu_miss e]; exact hB j h0 (by omega)
theorem zPt.brk {md md' : Nat} {bm bm' br : Int} {c h lv : Nat} {O A P B : Int → Int} {q1 q2 c' m lv1 : Nat} {O' A' P' B' : Int → Int} {w : zSem} (p : zPt md bm c (h + 1) lv O A (zsu P h br) (zsu B h 0) q1 c' m lv1 O' A' P' B' w) (hq : q1 ≤ q2) (hm : md < 5 ↔ md' < 5) : zPt md' bm' c h lv O A P B q2 (zVp P' B' m (h + 1) (O', A', c')).2.2 0 lv1 (zVp P' B' m (h + 1) (O', A', c')).1 (zVp P' B' m (h + 1) (O', A', c')).2.1 P' B' w := by
  obtain ⟨p1, p2, p3, p4, p5, p6, p7⟩ := p
  have vc : (zVp P' B' m (h + 1) (O', A', c')).2.2 ≤ c' + m := (zVp_c (P := P') (B := B') (x := (O', A', c')) m (h + 1)).2
  refine ⟨fun j hj => ?_, fun j a b => by omega, by omega, p4, p5, p6.cv hm, p7⟩
  have := p1 j (by omega)
  rw [zsu_miss (by omega), zsu_miss (by omega)] at this
  exact this
theorem zPt.leaf {T : Int → Int} {L q c h lv : Nat} {O A P B : Int → Int} (hqL : q ≤ L) (hl : znh T L q ≠ -1 ∨ zwh T L q ≠ -1) (hc : c + h ≤ q) (hq : q < znx T L q) : zPt 0 7 c h lv O A P B (znx T L q) (c + 1) 0 (lv + 1) (zsu O c (zlo T L q)) (zsu A c (zla9 T L q)) P B (fun F => if znh T L q ≠ -1 then some (znh T L q) else some (F (zwh T L q))) := by
  have nr := znh_rng (T := T) hqL
  have wr := zwh_rng (T := T) (L := L) (q := q)
  refine ⟨fun j _ => ⟨rfl, rfl⟩, fun j a b => by omega, by omega, by show c < c + 1; omega, fun j hj => ⟨zsu_miss (by omega), zsu_miss (by omega)⟩, ?_, 1, by omega, by omega, ?_⟩
  · intro F v hF ev
    refine ⟨fun _ => ?_, fun z => by omega⟩
    split at ev
    · cases ev
      rcases nr with z | z
      · rw [z]; unfold zb9; omega
      · unfold zb9; omega
    · rename_i hn
      cases ev
      rcases wr with z | z
      · exact absurd z (by rcases hl with y | y; exact absurd y hn; exact y)
      · have := hF _ z.1 z.2
        unfold zb9; omega
  · intro F hF
    show zS5 (fun i => zMk (zsu O c (zlo T L q) i)) (fun i => zMa (zsu O c (zlo T L q) i) (zsu A c (zla9 T L q) i)) F c ((c + 1 : Nat) : Int) 1 (if znh T L q ≠ -1 then some (znh T L q) else some (F (zwh T L q)))
    by_cases hn : znh T L q = -1
    · rw [if_neg (show ¬ znh T L q ≠ -1 from fun z => z hn)]
      have w1 : zwh T L q ≠ -1 := by rcases hl with y | y; exact absurd hn y; exact y
      have w2 : 0 ≤ zwh T L q ∧ zwh T L q < 12 := by omega
      have eo : zlo T L q = zwh T L q + 1 := by unfold zlo; rw [if_neg w1]
      have ek : zMk (zsu O c (zlo T L q) c) = 1 := by rw [zsu_hit, eo]; unfold zMk; rw [if_neg (by omega), if_pos (by omega)]
      have ea : zMa (zsu O c (zlo T L q) c) (zsu A c (zla9 T L q) c) = zwh T L q := by rw [zsu_hit, eo]; unfold zMa; rw [if_neg (by omega), if_pos (by omega)]; omega
      have := zS5.wrd (k := fun i => zMk (zsu O c (zlo T L q) i)) (ab := fun i => zMa (zsu O c (zlo T L q) i) (zsu A c (zla9 T L q) i)) (F := F) (i := c) ek (by show 0 ≤ zMa _ _; rw [ea]; exact w2.1) (by show zMa _ _ < 12; rw [ea]; exact w2.2)
      have e2 : F (zMa (zsu O c (zlo T L q) c) (zsu A c (zla9 T L q) c)) = F (zwh T L q) := by rw [ea]
      rw [← e2]
      exact this
    · rw [if_pos (show znh T L q ≠ -1 from hn)]
      have w1 : zwh T L q = -1 := Decidable.byContradiction (fun z => by have := zwh_sr z; have := (znh_sr hn).1; omega)
      have eo : zlo T L q = 0 := by unfold zlo; rw [if_pos w1]
      have el : zla9 T L q = znh T L q := by unfold zla9; rw [if_neg hn]
      have ek : zMk (zsu O c (zlo T L q) c) = 0 := by rw [zsu_hit, eo]; decide
      have ea : zMa (zsu O c (zlo T L q) c) (zsu A c (zla9 T L q) c) = znh T L q := by rw [zsu_hit, zsu_hit, eo, el]; unfold zMa; rw [if_pos rfl]
      have := zS5.num (k := fun i => zMk (zsu O c (zlo T L q) i)) (ab := fun i => zMa (zsu O c (zlo T L q) i) (zsu A c (zla9 T L q) i)) (F := F) (i := c) ek
      have e2 : some (zMa (zsu O c (zlo T L q) c) (zsu A c (zla9 T L q) c)) = some (znh T L q) := by rw [ea]
      rw [← e2]
      exact this
theorem zPt.m0 {md : Nat} {c h lv : Nat} {O A P B : Int → Int} {q' c' m lv' : Nat} {O' A' P' B' : Int → Int} {w : zSem} (p : zPt md 7 c h lv O A P B q' c' m lv' O' A' P' B' w) : m = 0 := by
  refine Decidable.byContradiction (fun z => ?_)
  have := (p.2.1 h (by omega) (by omega)).1
  have := (zbi_rng (op := P' h)).2.2
  omega
def zMc (X : zX) (l : Launch) (d : Nat) (μ0 : zM) (T : Int → Int) (L : Nat) (t : Int) (Q : zM → Prop) (n md : Nat) : Prop := ∀ (dp q lv q' lv' c h : Nat) (a : zSem) (r : Option zSem) (O A P B : Int → Int) (turn : Int), zPp T L n md dp q lv a = some (q', lv', r) → dp ≤ 8 → q ≤ L → lv ≤ 50 → c + h ≤ q → (∀ j : Int, 0 ≤ j → j < h → 0 ≤ B j ∧ B j < 400) → (h = 0 ∨ zbi (P ((h : Int) - 1)) < zbw md) → (5 ≤ md → zcx t P h ∧ zcom P h = false) → (if md < 5 then turn = 1 ∨ (turn = 0 ∧ ¬ ziw T L q 14836 ∧ ¬ zsg T L q 40) else turn = 0) → (r = none → zRf X l d μ0 t Q q') → (∀ w, r = some w → ∀ (c' m : Nat) (O' A' P' B' : Int → Int), zPt md (zbm md) c h lv O A P B q' c' m lv' O' A' P' B' w → zRx X l d μ0 T L t Q (if md < 5 then 3 else 2) q' c' (h + m) dp lv' O' A' P' B') → zRx X l d μ0 T L t Q turn q c h dp lv O A P B
def zMd' (X : zX) (l : Launch) (d : Nat) (μ0 : zM) (T : Int → Int) (L : Nat) (t : Int) (Q : zM → Prop) (n md : Nat) : Prop := ∀ (dp q lv q' lv' c h lv0 c1 m1 : Nat) (a : zSem) (r : Option zSem) (O A P B O1 A1 P1 B1 : Int → Int), zPp T L n md dp q lv a = some (q', lv', r) → dp ≤ 8 → q ≤ L → lv ≤ 50 → (∀ j : Int, 0 ≤ j → j < h → 0 ≤ B j ∧ B j < 400) → (h = 0 ∨ zbi (P ((h : Int) - 1)) < zbw md) → (5 ≤ md → zcx t P h) → zPt md (zbm md) c h lv0 O A P B q c1 m1 lv O1 A1 P1 B1 a → (r = none → zRf X l d μ0 t Q q') → (∀ w, r = some w → ∀ (c' m : Nat) (O' A' P' B' : Int → Int), zPt md (zbm md) c h lv0 O A P B q' c' m lv' O' A' P' B' w → zRx X l d μ0 T L t Q (if md < 5 then 3 else 2) q' c' (h + m) dp lv' O' A' P' B') → zRx X l d μ0 T L t Q (if md < 5 then 3 else 2) q c1 (h + m1) dp lv O1 A1 P1 B1
section
variable {X : zX} {l : Launch} {d : Nat} {μ0 : zM} {T : Int → Int} {L : Nat} {t : Int} {Q : zM → Prop} {n : Nat}
theorem mc_0 (hd : 10 ≤ d) (hL4 : L ≤ 400) (i3 : zMc X l d μ0 T L t Q n 3) : zMc X l d μ0 T L t Q (n + 1) 0 := by
  intro dp q lv q' lv' c h a r O A P B turn e hdp hqL hlv hc hB hbw hctx hturn hf hs
  rw [zPp_0] at e
  have v : zVd c h B := ⟨by omega, hB⟩
  have nq := znx_bd (T := T) hqL
  rw [if_pos (by decide)] at hturn
  refine rx_part hd v hc hdp hturn (fun g g8 => ?_) (fun g hl h50 => ?_) (fun g => ?_)
  · unfold zsg at g
    rw [if_pos g, if_pos g8] at e
    have nq2 := nq.2.2 (by have := g.1; omega)
    have hB2 := zB_su (b := 0) hB (by omega)
    have bw : h + 1 = 0 ∨ zbi (zsu P h 31 (((h + 1 : Nat) : Int) - 1)) < zbw 3 := zbw_su (by decide)
    rcases zbd_some e with ⟨q1, lv1, e1, e2⟩ | ⟨q1, lv1, w, e1, e2⟩
    · cases e2
      exact i3 _ _ _ _ _ _ _ _ _ _ _ _ _ 1 e1 (by omega) nq.1 hlv (by omega) hB2 bw (fun z => absurd z (by decide)) (by rw [if_pos (by decide)]; exact Or.inl rfl) (fun _ => hf rfl) (fun w z => by cases z)
    · have far := zPp_far _ _ _ _ _ _ _ _ _ (by decide) nq.1 hlv e1
      have st := (zPp_stop _ _ _ _ _ _ _ _ _ e1).2.1 rfl
      refine i3 _ _ _ _ _ _ _ _ _ _ _ _ _ 1 e1 (by omega) nq.1 hlv (by omega) hB2 bw (fun z => absurd z (by decide)) (by rw [if_pos (by decide)]; exact Or.inl rfl) (fun z => by cases z) (fun w' z c' m O' A' P' B' p => ?_)
      cases z
      have eP : P' h = 31 := by rw [(p.1 h (by omega)).1]; exact zsu_hit
      refine rx_sq hd (p.vd (by omega) hB2) st eP (fun j a b => (p.2.1 j a b).1) g8 (fun g2 => ?_) (fun g2 => ?_)
      · unfold zsg at g2
        rw [if_pos g2] at e2
        cases e2
        have nq3 := znx_bd (T := T) far.2.1
        exact hs w rfl _ 0 _ _ _ _ (p.brk nq3.2.1 (by decide))
      · unfold zsg at g2
        rw [if_neg g2] at e2
        cases e2
        exact hf rfl
  · unfold zsg at g
    rw [if_neg g, if_pos ⟨hl, h50⟩] at e
    cases e
    have nq2 := nq.2.2 (fun z0 => hl.elim (fun y => by have := (znh_sr y).1; omega) (fun y => by have := zwh_sr y; omega))
    exact hs _ rfl (c + 1) 0 _ _ _ _ (zPt.leaf hqL hl hc nq2)
  · rcases g with ⟨g1, g2⟩ | ⟨g1, g2⟩
    · unfold zsg at g1
      rw [if_pos g1, if_neg g2] at e
      cases e
      exact hf rfl
    · unfold zsg at g1
      rw [if_neg g1, if_neg g2] at e
      cases e
      exact hf rfl
theorem mt_2 (hd : 10 ≤ d) (hL4 : L ≤ 400) (i1 : zMc X l d μ0 T L t Q n 0) (i2 : zMd' X l d μ0 T L t Q n 2) : zMd' X l d μ0 T L t Q (n + 1) 2 := by
  intro dp q lv q' lv' c h lv0 c1 m1 a r O A P B O1 A1 P1 B1 e hdp hqL hlv hB hbw hctx p1 hf hs
  rw [zPp_2] at e
  by_cases g : zsr T L q = 3 ∧ (T q = 42 ∨ T q = 47)
  · rw [if_pos g] at e
    have nq := znx_bd (T := T) hqL
    have nq2 := nq.2.2 (by have := g.1; omega)
    have vc : (zVp P1 B1 m1 h (O1, A1, c1)).2.2 ≤ c1 + m1 := (zVp_c (P := P1) (B := B1) (x := (O1, A1, c1)) m1 h).2
    have p13 := p1.2.2.1
    obtain ⟨op, g2, eκ⟩ : ∃ op : Int, ((zsg T L q 42 ∧ op = 22) ∨ (zsg T L q 47 ∧ op = 23)) ∧ op - 18 = (if T q = 42 then 4 else 5) := by
      by_cases z : T q = 42
      · exact ⟨22, Or.inl ⟨⟨g.1, z⟩, rfl⟩, by rw [if_pos z]; rfl⟩
      · exact ⟨23, Or.inr ⟨⟨g.1, g.2.resolve_left z⟩, rfl⟩, by rw [if_neg z]; rfl⟩
    have hop : (op = 22 ∨ op = 23) := g2.elim (fun z => Or.inl z.2) (fun z => Or.inr z.2)
    have eb : zbi op = 6 := by rcases hop with z | z <;> rw [z] <;> decide
    have hB1 : ∀ j : Int, 0 ≤ j → j < h → 0 ≤ B1 j ∧ B1 j < 400 := fun j h0 h1 => by rw [(p1.1 j h1).2]; exact hB j h0 h1
    rw [← eκ] at e
    refine rx_op (op := op) hd (p1.vd (by omega) hB) p13 hqL hL4 (g2.elim (fun z => Or.inr (Or.inr (Or.inl z))) (fun z => Or.inr (Or.inr (Or.inr z)))) (fun j h0 h1 => by rw [eb]; exact (p1.2.1 j h0 h1).1) (hbw.elim Or.inl (fun z => ?_)) ?_
    · by_cases h0 : h = 0
      · exact Or.inl h0
      · rw [(p1.1 ((h : Int) - 1) (by omega)).1, eb]; exact Or.inr z
    · have bw : h + 1 = 0 ∨ zbi (zsu P1 h op (((h + 1 : Nat) : Int) - 1)) < zbw 0 := zbw_su (by rw [eb]; decide)
      rcases zbd_some e with ⟨q1, lv1, e1, e2⟩ | ⟨q1, lv1, w, e1, e2⟩
      · cases e2
        exact i1 _ _ _ _ _ _ _ _ _ _ _ _ _ 1 e1 hdp nq.1 hlv (by omega) (zB_su hB1 (by omega)) bw (fun z => absurd z (by decide)) (by rw [if_pos (by decide)]; exact Or.inl rfl) (fun _ => hf rfl) (fun w z => by cases z)
      · have far := zPp_far _ _ _ _ _ _ _ _ _ (by decide) nq.1 hlv e1
        refine i1 _ _ _ _ _ _ _ _ _ _ _ _ _ 1 e1 hdp nq.1 hlv (by omega) (zB_su hB1 (by omega)) bw (fun z => absurd z (by decide)) (by rw [if_pos (by decide)]; exact Or.inl rfl) (fun z => by cases z) (fun w' z c' m O' A' P' B' p => ?_)
        cases z
        have pj : zPt 2 (zbm 2) c h lv0 O A P B q1 c' (m + 1) lv1 O' A' P' B' (zj2 (op - 18) a w) := zPt.bin (by omega) (by omega) p1 p (by rw [eb]; decide) (by decide) (fun z => absurd z (by decide))
        have := i2 _ _ _ _ _ _ _ _ _ _ _ _ _ _ _ _ _ _ _ _ e2 hdp far.2.1 far.2.2.2.1 hB hbw hctx pj hf hs
        rw [show h + (m + 1) = h + 1 + m by omega] at this
        exact this
  · rw [if_neg g] at e
    cases e
    exact hs a rfl c1 m1 O1 A1 P1 B1 p1
theorem mt_4 (hd : 10 ≤ d) (hL4 : L ≤ 400) (i1 : zMc X l d μ0 T L t Q n 1) (i2 : zMd' X l d μ0 T L t Q n 4) : zMd' X l d μ0 T L t Q (n + 1) 4 := by
  intro dp q lv q' lv' c h lv0 c1 m1 a r O A P B O1 A1 P1 B1 e hdp hqL hlv hB hbw hctx p1 hf hs
  rw [zPp_4] at e
  by_cases g : zsr T L q = 3 ∧ (T q = 43 ∨ T q = 45)
  · rw [if_pos g] at e
    have nq := znx_bd (T := T) hqL
    have nq2 := nq.2.2 (by have := g.1; omega)
    have vc : (zVp P1 B1 m1 h (O1, A1, c1)).2.2 ≤ c1 + m1 := (zVp_c (P := P1) (B := B1) (x := (O1, A1, c1)) m1 h).2
    have p13 := p1.2.2.1
    obtain ⟨op, g2, eκ⟩ : ∃ op : Int, ((zsg T L q 43 ∧ op = 20) ∨ (zsg T L q 45 ∧ op = 21)) ∧ op - 18 = (if T q = 43 then 2 else 3) := by
      by_cases z : T q = 43
      · exact ⟨20, Or.inl ⟨⟨g.1, z⟩, rfl⟩, by rw [if_pos z]; rfl⟩
      · exact ⟨21, Or.inr ⟨⟨g.1, g.2.resolve_left z⟩, rfl⟩, by rw [if_neg z]; rfl⟩
    have hop : (op = 20 ∨ op = 21) := g2.elim (fun z => Or.inl z.2) (fun z => Or.inr z.2)
    have eb : zbi op = 5 := by rcases hop with z | z <;> rw [z] <;> decide
    have hB1 : ∀ j : Int, 0 ≤ j → j < h → 0 ≤ B1 j ∧ B1 j < 400 := fun j h0 h1 => by rw [(p1.1 j h1).2]; exact hB j h0 h1
    rw [← eκ] at e
    refine rx_op (op := op) hd (p1.vd (by omega) hB) p13 hqL hL4 (g2.elim (fun z => Or.inl z) (fun z => Or.inr (Or.inl z))) (fun j h0 h1 => by rw [eb]; exact (p1.2.1 j h0 h1).1) (hbw.elim Or.inl (fun z => ?_)) ?_
    · by_cases h0 : h = 0
      · exact Or.inl h0
      · rw [(p1.1 ((h : Int) - 1) (by omega)).1, eb]; exact Or.inr z
    · have bw : h + 1 = 0 ∨ zbi (zsu P1 h op (((h + 1 : Nat) : Int) - 1)) < zbw 1 := zbw_su (by rw [eb]; decide)
      rcases zbd_some e with ⟨q1, lv1, e1, e2⟩ | ⟨q1, lv1, w, e1, e2⟩
      · cases e2
        exact i1 _ _ _ _ _ _ _ _ _ _ _ _ _ 1 e1 hdp nq.1 hlv (by omega) (zB_su hB1 (by omega)) bw (fun z => absurd z (by decide)) (by rw [if_pos (by decide)]; exact Or.inl rfl) (fun _ => hf rfl) (fun w z => by cases z)
      · have far := zPp_far _ _ _ _ _ _ _ _ _ (by decide) nq.1 hlv e1
        refine i1 _ _ _ _ _ _ _ _ _ _ _ _ _ 1 e1 hdp nq.1 hlv (by omega) (zB_su hB1 (by omega)) bw (fun z => absurd z (by decide)) (by rw [if_pos (by decide)]; exact Or.inl rfl) (fun z => by cases z) (fun w' z c' m O' A' P' B' p => ?_)
        cases z
        have pj : zPt 4 (zbm 4) c h lv0 O A P B q1 c' (m + 1) lv1 O' A' P' B' (zj2 (op - 18) a w) := zPt.bin (by omega) (by omega) p1 p (by rw [eb]; decide) (by decide) (fun z => absurd z (by decide))
        have := i2 _ _ _ _ _ _ _ _ _ _ _ _ _ _ _ _ _ _ _ _ e2 hdp far.2.1 far.2.2.2.1 hB hbw hctx pj hf hs
        rw [show h + (m + 1) = h + 1 + m by omega] at this
        exact this
  · rw [if_neg g] at e
    cases e
    exact hs a rfl c1 m1 O1 A1 P1 B1 p1
theorem mt_7 (hd : 10 ≤ d) (hL4 : L ≤ 400) (i1 : zMc X l d μ0 T L t Q n 5) (i2 : zMd' X l d μ0 T L t Q n 7) : zMd' X l d μ0 T L t Q (n + 1) 7 := by
  intro dp q lv q' lv' c h lv0 c1 m1 a r O A P B O1 A1 P1 B1 e hdp hqL hlv hB hbw hctx p1 hf hs
  rw [zPp_7] at e
  by_cases g : zsr T L q = 1 ∧ zwo T L q = 1476
  · rw [if_pos g] at e
    have nq := znx_bd (T := T) hqL
    have len : 3 ≤ zen T L q - q := by
      have := ((ziw_iff (T := T) (L := L) (q := q) (j := 4) (by decide)).1 g).2.1
      have e2 : zlen.getD 4 0 = 3 := by decide
      omega
    have nxe : zen T L q ≤ znx T L q ∧ zen T L q ≤ L := by
      have z := zen_bd (T := T) hqL
      exact ⟨(zbl_bd (T := T) z.2.1).1, z.2.1⟩
    have vc : (zVp P1 B1 m1 h (O1, A1, c1)).2.2 ≤ c1 + m1 := (zVp_c (P := P1) (B := B1) (x := (O1, A1, c1)) m1 h).2
    have p13 := p1.2.2.1
    have hB1 : ∀ j : Int, 0 ≤ j → j < h → 0 ≤ B1 j ∧ B1 j < 400 := fun j h0 h1 => by rw [(p1.1 j h1).2]; exact hB j h0 h1
    refine rx_and (op := 28) hd (p1.vd (by omega) hB) p13 (by omega) hL4 (Or.inl ⟨g, rfl⟩) (fun j h0 h1 => (p1.2.1 j h0 h1).1) (hbw.elim Or.inl (fun z => ?_)) ?_
    · by_cases h0 : h = 0
      · exact Or.inl h0
      · rw [(p1.1 ((h : Int) - 1) (by omega)).1]; exact Or.inr z
    · have bw : h + 1 = 0 ∨ zbi (zsu P1 h 28 (((h + 1 : Nat) : Int) - 1)) < zbw 5 := zbw_su (by decide)
      have cx : zcx t (zsu P1 h 28) (h + 1) ∧ zcom (zsu P1 h 28) (h + 1) = false := by
        refine ⟨?_, by rw [zcom_su (by decide)]; decide⟩
        have := hctx (by decide)
        unfold zcx at this ⊢
        rw [zinn_su, if_pos (by decide), zinn_congr h (fun j hj => (p1.1 j hj).1)]
        exact this
      rcases zbd_some e with ⟨q1, lv1, e1, e2⟩ | ⟨q1, lv1, w, e1, e2⟩
      · cases e2
        exact i1 _ _ _ _ _ _ _ _ _ _ _ _ _ 0 e1 hdp nq.1 hlv (by omega) (zB_su hB1 (by omega)) bw (fun _ => cx) (by rw [if_neg (by decide)]) (fun _ => hf rfl) (fun w z => by cases z)
      · have far := zPp_far _ _ _ _ _ _ _ _ _ (by decide) nq.1 hlv e1
        refine i1 _ _ _ _ _ _ _ _ _ _ _ _ _ 0 e1 hdp nq.1 hlv (by omega) (zB_su hB1 (by omega)) bw (fun _ => cx) (by rw [if_neg (by decide)]) (fun z => by cases z) (fun w' z c' m O' A' P' B' p => ?_)
        cases z
        have pj : zPt 7 (zbm 7) c h lv0 O A P B q1 c' (m + 1) lv1 O' A' P' B' (zao (zMk 28) a w) := zPt.aor (by decide) p1 p (by omega) (by decide) (by decide) (by decide) (by decide)
        have := i2 _ _ _ _ _ _ _ _ _ _ _ _ _ _ _ _ _ _ _ _ e2 hdp far.2.1 far.2.2.2.1 hB hbw hctx pj hf hs
        rw [show h + (m + 1) = h + 1 + m by omega] at this
        exact this
  · rw [if_neg g] at e
    cases e
    exact hs a rfl c1 m1 O1 A1 P1 B1 p1
theorem mt_9 (hd : 10 ≤ d) (hL4 : L ≤ 400) (i1 : zMc X l d μ0 T L t Q n 6) (i2 : zMd' X l d μ0 T L t Q n 9) : zMd' X l d μ0 T L t Q (n + 1) 9 := by
  intro dp q lv q' lv' c h lv0 c1 m1 a r O A P B O1 A1 P1 B1 e hdp hqL hlv hB hbw hctx p1 hf hs
  rw [zPp_9] at e
  by_cases g : zsr T L q = 1 ∧ zwo T L q = 498
  · rw [if_pos g] at e
    have nq := znx_bd (T := T) hqL
    have len : 2 ≤ zen T L q - q := by
      have := ((ziw_iff (T := T) (L := L) (q := q) (j := 3) (by decide)).1 g).2.1
      have e2 : zlen.getD 3 0 = 2 := by decide
      omega
    have nxe : zen T L q ≤ znx T L q ∧ zen T L q ≤ L := by
      have z := zen_bd (T := T) hqL
      exact ⟨(zbl_bd (T := T) z.2.1).1, z.2.1⟩
    have vc : (zVp P1 B1 m1 h (O1, A1, c1)).2.2 ≤ c1 + m1 := (zVp_c (P := P1) (B := B1) (x := (O1, A1, c1)) m1 h).2
    have p13 := p1.2.2.1
    have hB1 : ∀ j : Int, 0 ≤ j → j < h → 0 ≤ B1 j ∧ B1 j < 400 := fun j h0 h1 => by rw [(p1.1 j h1).2]; exact hB j h0 h1
    refine rx_and (op := 29) hd (p1.vd (by omega) hB) p13 (by omega) hL4 (Or.inr ⟨g, rfl⟩) (fun j h0 h1 => (p1.2.1 j h0 h1).1) (hbw.elim Or.inl (fun z => ?_)) ?_
    · by_cases h0 : h = 0
      · exact Or.inl h0
      · rw [(p1.1 ((h : Int) - 1) (by omega)).1]; exact Or.inr z
    · have bw : h + 1 = 0 ∨ zbi (zsu P1 h 29 (((h + 1 : Nat) : Int) - 1)) < zbw 6 := zbw_su (by decide)
      have cx : zcx t (zsu P1 h 29) (h + 1) ∧ zcom (zsu P1 h 29) (h + 1) = false := by
        refine ⟨?_, by rw [zcom_su (by decide)]; decide⟩
        have := hctx (by decide)
        unfold zcx at this ⊢
        rw [zinn_su, if_pos (by decide), zinn_congr h (fun j hj => (p1.1 j hj).1)]
        exact this
      rcases zbd_some e with ⟨q1, lv1, e1, e2⟩ | ⟨q1, lv1, w, e1, e2⟩
      · cases e2
        exact i1 _ _ _ _ _ _ _ _ _ _ _ _ _ 0 e1 hdp nq.1 hlv (by omega) (zB_su hB1 (by omega)) bw (fun _ => cx) (by rw [if_neg (by decide)]) (fun _ => hf rfl) (fun w z => by cases z)
      · have far := zPp_far _ _ _ _ _ _ _ _ _ (by decide) nq.1 hlv e1
        refine i1 _ _ _ _ _ _ _ _ _ _ _ _ _ 0 e1 hdp nq.1 hlv (by omega) (zB_su hB1 (by omega)) bw (fun _ => cx) (by rw [if_neg (by decide)]) (fun z => by cases z) (fun w' z c' m O' A' P' B' p => ?_)
        cases z
        have pj : zPt 9 (zbm 9) c h lv0 O A P B q1 c' (m + 1) lv1 O' A' P' B' (zao (zMk 29) a w) := zPt.aor (by decide) p1 p (by omega) (by decide) (by decide) (by decide) (by decide)
        have := i2 _ _ _ _ _ _ _ _ _ _ _ _ _ _ _ _ _ _ _ _ e2 hdp far.2.1 far.2.2.2.1 hB hbw hctx pj hf hs
        rw [show h + (m + 1) = h + 1 + m by omega] at this
        exact this
  · rw [if_neg g] at e
    cases e
    exact hs a rfl c1 m1 O1 A1 P1 B1 p1
theorem mc_1 (hd : 10 ≤ d) (hL4 : L ≤ 400) (i1 : zMc X l d μ0 T L t Q n 0) (i2 : zMd' X l d μ0 T L t Q n 2) : zMc X l d μ0 T L t Q (n + 1) 1 := by
  intro dp q lv q' lv' c h a r O A P B turn e hdp hqL hlv hc hB hbw hctx hturn hf hs
  rw [zPp_1] at e
  have hbw' : h = 0 ∨ zbi (P ((h : Int) - 1)) < zbw 0 := hbw.elim Or.inl (fun z => Or.inr (Int.lt_of_lt_of_le z (by decide)))
  rcases zbd_some e with ⟨q1, lv1, e1, e2⟩ | ⟨q1, lv1, w, e1, e2⟩
  · cases e2
    exact i1 _ _ _ _ _ _ _ _ _ _ _ _ _ turn e1 hdp hqL hlv hc hB hbw' (fun z => absurd z (by decide)) hturn (fun _ => hf rfl) (fun w z => by cases z)
  · have far := zPp_far _ _ _ _ _ _ _ _ _ (by decide) hqL hlv e1
    refine i1 _ _ _ _ _ _ _ _ _ _ _ _ _ turn e1 hdp hqL hlv hc hB hbw' (fun z => absurd z (by decide)) hturn (fun z => by cases z) (fun w' z c' m O' A' P' B' p => ?_)
    cases z
    exact i2 _ _ _ _ _ _ _ _ _ _ _ _ _ _ _ _ _ _ _ _ e2 hdp far.2.1 far.2.2.2.1 hB hbw (fun z => absurd z (by decide)) (p.mono (by decide) (by decide)) hf (fun w' z c' m O' A' P' B' p' => hs w' z c' m O' A' P' B' (p'.mono (by decide) (by decide)))
theorem mc_3 (hd : 10 ≤ d) (hL4 : L ≤ 400) (i1 : zMc X l d μ0 T L t Q n 1) (i2 : zMd' X l d μ0 T L t Q n 4) : zMc X l d μ0 T L t Q (n + 1) 3 := by
  intro dp q lv q' lv' c h a r O A P B turn e hdp hqL hlv hc hB hbw hctx hturn hf hs
  rw [zPp_3] at e
  have hbw' : h = 0 ∨ zbi (P ((h : Int) - 1)) < zbw 1 := hbw.elim Or.inl (fun z => Or.inr (Int.lt_of_lt_of_le z (by decide)))
  rcases zbd_some e with ⟨q1, lv1, e1, e2⟩ | ⟨q1, lv1, w, e1, e2⟩
  · cases e2
    exact i1 _ _ _ _ _ _ _ _ _ _ _ _ _ turn e1 hdp hqL hlv hc hB hbw' (fun z => absurd z (by decide)) hturn (fun _ => hf rfl) (fun w z => by cases z)
  · have far := zPp_far _ _ _ _ _ _ _ _ _ (by decide) hqL hlv e1
    refine i1 _ _ _ _ _ _ _ _ _ _ _ _ _ turn e1 hdp hqL hlv hc hB hbw' (fun z => absurd z (by decide)) hturn (fun z => by cases z) (fun w' z c' m O' A' P' B' p => ?_)
    cases z
    exact i2 _ _ _ _ _ _ _ _ _ _ _ _ _ _ _ _ _ _ _ _ e2 hdp far.2.1 far.2.2.2.1 hB hbw (fun z => absurd z (by decide)) (p.mono (by decide) (by decide)) hf (fun w' z c' m O' A' P' B' p' => hs w' z c' m O' A' P' B' (p'.mono (by decide) (by decide)))
theorem mc_6 (hd : 10 ≤ d) (hL4 : L ≤ 400) (i1 : zMc X l d μ0 T L t Q n 5) (i2 : zMd' X l d μ0 T L t Q n 7) : zMc X l d μ0 T L t Q (n + 1) 6 := by
  intro dp q lv q' lv' c h a r O A P B turn e hdp hqL hlv hc hB hbw hctx hturn hf hs
  rw [zPp_6] at e
  have hbw' : h = 0 ∨ zbi (P ((h : Int) - 1)) < zbw 5 := hbw.elim Or.inl (fun z => Or.inr (Int.lt_of_lt_of_le z (by decide)))
  rcases zbd_some e with ⟨q1, lv1, e1, e2⟩ | ⟨q1, lv1, w, e1, e2⟩
  · cases e2
    exact i1 _ _ _ _ _ _ _ _ _ _ _ _ _ turn e1 hdp hqL hlv hc hB hbw' (fun _ => hctx (by decide)) hturn (fun _ => hf rfl) (fun w z => by cases z)
  · have far := zPp_far _ _ _ _ _ _ _ _ _ (by decide) hqL hlv e1
    refine i1 _ _ _ _ _ _ _ _ _ _ _ _ _ turn e1 hdp hqL hlv hc hB hbw' (fun _ => hctx (by decide)) hturn (fun z => by cases z) (fun w' z c' m O' A' P' B' p => ?_)
    cases z
    exact i2 _ _ _ _ _ _ _ _ _ _ _ _ _ _ _ _ _ _ _ _ e2 hdp far.2.1 far.2.2.2.1 hB hbw (fun _ => (hctx (by decide)).1) (p.mono (by decide) (by decide)) hf (fun w' z c' m O' A' P' B' p' => hs w' z c' m O' A' P' B' (p'.mono (by decide) (by decide)))
theorem mc_8 (hd : 10 ≤ d) (hL4 : L ≤ 400) (i1 : zMc X l d μ0 T L t Q n 6) (i2 : zMd' X l d μ0 T L t Q n 9) : zMc X l d μ0 T L t Q (n + 1) 8 := by
  intro dp q lv q' lv' c h a r O A P B turn e hdp hqL hlv hc hB hbw hctx hturn hf hs
  rw [zPp_8] at e
  have hbw' : h = 0 ∨ zbi (P ((h : Int) - 1)) < zbw 6 := hbw.elim Or.inl (fun z => Or.inr (Int.lt_of_lt_of_le z (by decide)))
  rcases zbd_some e with ⟨q1, lv1, e1, e2⟩ | ⟨q1, lv1, w, e1, e2⟩
  · cases e2
    exact i1 _ _ _ _ _ _ _ _ _ _ _ _ _ turn e1 hdp hqL hlv hc hB hbw' (fun _ => hctx (by decide)) hturn (fun _ => hf rfl) (fun w z => by cases z)
  · have far := zPp_far _ _ _ _ _ _ _ _ _ (by decide) hqL hlv e1
    refine i1 _ _ _ _ _ _ _ _ _ _ _ _ _ turn e1 hdp hqL hlv hc hB hbw' (fun _ => hctx (by decide)) hturn (fun z => by cases z) (fun w' z c' m O' A' P' B' p => ?_)
    cases z
    exact i2 _ _ _ _ _ _ _ _ _ _ _ _ _ _ _ _ _ _ _ _ e2 hdp far.2.1 far.2.2.2.1 hB hbw (fun _ => (hctx (by decide)).1) (p.mono (by decide) (by decide)) hf (fun w' z c' m O' A' P' B' p' => hs w' z c' m O' A' P' B' (p'.mono (by decide) (by decide)))
theorem mc_5 (hd : 10 ≤ d) (hL4 : L ≤ 400) (i3 : zMc X l d μ0 T L t Q n 3) (i5 : zMc X l d μ0 T L t Q n 5) (i8 : zMc X l d μ0 T L t Q n 8) : zMc X l d μ0 T L t Q (n + 1) 5 := by
  intro dp q lv q' lv' c h a r O A P B turn e hdp hqL hlv hc hB hbw hctx hturn hf hs
  rw [zPp_5] at e
  rw [if_neg (by decide)] at hturn
  subst hturn
  have v : zVd c h B := ⟨by omega, hB⟩
  have nq := znx_bd (T := T) hqL
  obtain ⟨cx, cm⟩ := hctx (by decide)
  by_cases g : zsr T L q = 1 ∧ zwo T L q = 14836
  · rw [if_pos g] at e
    have nq2 := nq.2.2 (by have := g.1; omega)
    refine rx_not hd hc hqL hL4 g ?_
    have bw : h + 1 = 0 ∨ zbi (zsu P h 27 (((h + 1 : Nat) : Int) - 1)) < zbw 5 := zbw_su (by decide)
    have cx2 : zcx t (zsu P h 27) (h + 1) ∧ zcom (zsu P h 27) (h + 1) = false := by
      refine ⟨?_, by rw [zcom_su (by decide)]; decide⟩
      unfold zcx at cx ⊢
      rw [zinn_su, if_pos (by decide)]
      exact cx
    rcases zbd_some e with ⟨q1, lv1, e1, e2⟩ | ⟨q1, lv1, w, e1, e2⟩
    · cases e2
      exact i5 _ _ _ _ _ _ _ _ _ _ _ _ _ 0 e1 hdp nq.1 hlv (by omega) (zB_su hB (by omega)) bw (fun _ => cx2) (by rw [if_neg (by decide)]) (fun _ => hf rfl) (fun w z => by cases z)
    · cases e2
      refine i5 _ _ _ _ _ _ _ _ _ _ _ _ _ 0 e1 hdp nq.1 hlv (by omega) (zB_su hB (by omega)) bw (fun _ => cx2) (by rw [if_neg (by decide)]) (fun z => by cases z) (fun w' z c' m O' A' P' B' p => ?_)
      cases z
      have := hs (zno w) rfl c' (m + 1) O' A' P' B' (zPt.neg p (by decide) (by decide))
      rw [show h + (m + 1) = h + 1 + m by omega] at this
      exact this
  rw [if_neg g] at e
  by_cases g1 : zsr T L q = 3 ∧ T q = 40
  · rw [if_pos g1] at e
    have nq2 := nq.2.2 (by have := g1.1; omega)
    refine rx_round hd v hc hqL hL4 hdp g1 (fun g8 => ?_) (fun g8 => ?_)
    · rw [if_pos g8] at e
      have bw : h + 1 = 0 ∨ zbi (zsu P h 30 (((h + 1 : Nat) : Int) - 1)) < zbw 8 := zbw_su (by decide)
      have hB2 := zB_su (b := 0) hB (by omega)
      have cx2 : zcx t (zsu P h 30) (h + 1) ∧ zcom (zsu P h 30) (h + 1) = false := by
        refine ⟨?_, by rw [zcom_su (by decide)]; decide⟩
        unfold zcx
        rw [zinn_su, if_neg (by decide)]
        exact Or.inl rfl
      rcases zbd_some e with ⟨q1, lv1, e1, e2⟩ | ⟨q1, lv1, w, e1, e2⟩
      · cases e2
        exact i8 _ _ _ _ _ _ _ _ _ _ _ _ _ 0 e1 (by omega) nq.1 hlv (by omega) hB2 bw (fun _ => cx2) (by rw [if_neg (by decide)]) (fun _ => hf rfl) (fun w z => by cases z)
      · have far := zPp_far _ _ _ _ _ _ _ _ _ (by decide) nq.1 hlv e1
        have st := (zPp_stop _ _ _ _ _ _ _ _ _ e1).2.2.2.2.1 rfl
        refine i8 _ _ _ _ _ _ _ _ _ _ _ _ _ 0 e1 (by omega) nq.1 hlv (by omega) hB2 bw (fun _ => cx2) (by rw [if_neg (by decide)]) (fun z => by cases z) (fun w' z c' m O' A' P' B' p => ?_)
        cases z
        have eP : P' h = 30 := by rw [(p.1 h (by omega)).1]; exact zsu_hit
        refine rx_close hd (p.vd (by omega) hB2) st.1 st.2 eP (fun j a b => (p.2.1 j a b).1) g8 (fun g2 => ?_) (fun g2 => ?_)
        · unfold zsg at g2
          rw [if_pos g2] at e2
          cases e2
          have nq3 := znx_bd (T := T) far.2.1
          exact hs w rfl _ 0 _ _ _ _ (p.brk nq3.2.1 (by decide))
        · unfold zsg at g2
          rw [if_neg g2] at e2
          cases e2
          exact hf rfl
    · rw [if_neg g8] at e
      cases e
      exact hf rfl
  rw [if_neg g1] at e
  rcases zbd_some e with ⟨q1, lv1, e1, e2⟩ | ⟨q1, lv1, w, e1, e2⟩
  · cases e2
    exact i3 _ _ _ _ _ _ _ _ _ _ _ _ _ 0 e1 hdp hqL hlv hc hB hbw (fun z => absurd z (by decide)) (by rw [if_pos (by decide)]; exact Or.inr ⟨rfl, g, g1⟩) (fun _ => hf rfl) (fun w z => by cases z)
  · have far := zPp_far _ _ _ _ _ _ _ _ _ (by decide) hqL hlv e1
    have st := (zPp_stop _ _ _ _ _ _ _ _ _ e1).2.1 rfl
    refine i3 _ _ _ _ _ _ _ _ _ _ _ _ _ 0 e1 hdp hqL hlv hc hB hbw (fun z => absurd z (by decide)) (by rw [if_pos (by decide)]; exact Or.inr ⟨rfl, g, g1⟩) (fun z => by cases z) (fun w' z c1 m1 O1 A1 P1 B1 p1 => ?_)
    cases z
    have p13 := p1.2.2.1
    have vc : (zVp P1 B1 m1 h (O1, A1, c1)).2.2 ≤ c1 + m1 := (zVp_c (P := P1) (B := B1) (x := (O1, A1, c1)) m1 h).2
    have hB1 : ∀ j : Int, 0 ≤ j → j < h → 0 ≤ B1 j ∧ B1 j < 400 := fun j h0 h1 => by rw [(p1.1 j h1).2]; exact hB j h0 h1
    have ops : ∀ j : Int, (h : Int) ≤ j → j < ((h + m1 : Nat) : Int) → 5 ≤ zbi (P1 j) := fun j a b => (p1.2.1 j a b).1
    have in1 : zinn P1 (h + m1) = zinn P h := by
      rw [zinn_up m1 (fun j a b => zbi_rng.1 (by have := ops j a b; omega)), zinn_congr h (fun j hj => (p1.1 j hj).1)]
    have cm1 : zcom P1 (h + m1) = false := by
      rw [zcom_up m1 (fun j a b => zbi_20 (ops j a b) ((zPt.lo p1) j a b)), zcom_congr h (fun j hj => (p1.1 j hj).1)]
      exact cm
    have bw1 : h = 0 ∨ zbi (P1 ((h : Int) - 1)) < 5 := hbw.elim Or.inl (fun z => by
      by_cases h0 : h = 0
      · exact Or.inl h0
      · rw [(p1.1 ((h : Int) - 1) (by omega)).1]; exact Or.inr z)
    refine rx_cmp hd (p1.vd (by omega) hB) p13 far.2.1 hL4 st (by rw [in1]; exact cx) cm1 ops bw1 (fun g2 => ?_) (fun g2 => ?_)
    · have g3 : zsr T L q1 = 3 ∧ (T q1 = 60 ∨ T q1 = 62 ∨ T q1 = 61) := by
        rcases g2 with z | z | z
        · exact ⟨z.1, Or.inl z.2⟩
        · exact ⟨z.1, Or.inr (Or.inl z.2)⟩
        · exact ⟨z.1, Or.inr (Or.inr z.2)⟩
      rw [if_pos g3] at e2
      have nq1 := znx_bd (T := T) far.2.1
      have nq3 := nq1.2.2 (by have := g3.1; omega)
      obtain ⟨op, eop, hop⟩ : ∃ op : Int, op = (if T q1 = 60 then 24 else if T q1 = 62 then 25 else 26) ∧ (op = 24 ∨ op = 25 ∨ op = 26) := by
        refine ⟨_, rfl, ?_⟩
        split
        · exact Or.inl rfl
        · split
          · exact Or.inr (Or.inl rfl)
          · exact Or.inr (Or.inr rfl)
      have eκ : op - 18 = (if T q1 = 60 then 6 else if T q1 = 62 then 7 else 8) := by
        rw [eop]
        split
        · rfl
        · split <;> rfl
      rw [← eop]
      rw [← eκ] at e2
      have eb : zbi op = 4 := by rcases hop with z | z | z <;> rw [z] <;> decide
      have bw : h + 1 = 0 ∨ zbi (zsu P1 h op (((h + 1 : Nat) : Int) - 1)) < zbw 3 := zbw_su (by rw [eb]; decide)
      rcases zbd_some e2 with ⟨q2, lv2, e3, e4⟩ | ⟨q2, lv2, w2, e3, e4⟩
      · cases e4
        exact i3 _ _ _ _ _ _ _ _ _ _ _ _ _ 1 e3 hdp nq1.1 far.2.2.2.1 (by omega) (zB_su hB1 (by omega)) bw (fun z => absurd z (by decide)) (by rw [if_pos (by decide)]; exact Or.inl rfl) (fun _ => hf rfl) (fun w z => by cases z)
      · cases e4
        have far2 := zPp_far _ _ _ _ _ _ _ _ _ (by decide) nq1.1 far.2.2.2.1 e3
        have st2 := (zPp_stop _ _ _ _ _ _ _ _ _ e3).2.1 rfl
        refine i3 _ _ _ _ _ _ _ _ _ _ _ _ _ 1 e3 hdp nq1.1 far.2.2.2.1 (by omega) (zB_su hB1 (by omega)) bw (fun z => absurd z (by decide)) (by rw [if_pos (by decide)]; exact Or.inl rfl) (fun z => by cases z) (fun w' z c2 m2 O2 A2 P2 B2 p2 => ?_)
        cases z
        have p23 := p2.2.2.1
        have ops2 : ∀ j : Int, ((h + 1 : Nat) : Int) ≤ j → j < ((h + 1 + m2 : Nat) : Int) → 5 ≤ zbi (P2 j) := fun j a b => (p2.2.1 j a b).1
        have in2 : zinn P2 (h + 1 + m2) = zinn P h := by
          rw [zinn_up m2 (fun j a b => zbi_rng.1 (by have := ops2 j a b; omega)), zinn_congr (h + 1) (fun j hj => (p2.1 j hj).1), zinn_su, if_pos (by omega), zinn_congr h (fun j hj => (p1.1 j hj).1)]
        have cm2 : zcom P2 (h + 1 + m2) = true := by
          rw [zcom_up m2 (fun j a b => zbi_20 (ops2 j a b) ((zPt.lo p2) j a b)), zcom_congr (h + 1) (fun j hj => (p2.1 j hj).1), zcom_su (by omega)]
          exact decide_eq_true ⟨by omega, by omega⟩
        refine rx_told hd (by omega) st2 (by rw [in2]; exact cx) cm2 ?_
        have pj : zPt 5 (zbm 5) c h lv O A P B q' c2 (m2 + 1) lv' O2 A2 P2 B2 (zj2 (op - 18) w w2) := zPt.bin (by omega) (by omega) p1 p2 (by rw [eb]; decide) (by decide) (fun _ => by omega)
        have := hs _ rfl c2 (m2 + 1) O2 A2 P2 B2 pj
        rw [show h + (m2 + 1) = h + 1 + m2 by omega] at this
        exact this
    · rw [if_neg (fun z => g2 ?_)] at e2
      · cases e2
        exact hf rfl
      · rcases z.2 with y | y | y
        · exact Or.inl ⟨z.1, y⟩
        · exact Or.inr (Or.inl ⟨z.1, y⟩)
        · exact Or.inr (Or.inr ⟨z.1, y⟩)
/-- all modes -/
theorem m_all (hd : 10 ≤ d) (hL4 : L ≤ 400) : ∀ n : Nat, zMc X l d μ0 T L t Q n 0 ∧ zMc X l d μ0 T L t Q n 1 ∧ zMc X l d μ0 T L t Q n 3 ∧ zMc X l d μ0 T L t Q n 5 ∧ zMc X l d μ0 T L t Q n 6 ∧ zMc X l d μ0 T L t Q n 8 ∧ zMd' X l d μ0 T L t Q n 2 ∧ zMd' X l d μ0 T L t Q n 4 ∧ zMd' X l d μ0 T L t Q n 7 ∧ zMd' X l d μ0 T L t Q n 9
  | 0 => by
    exact ⟨(by intro dp q lv q' lv' c h a r O A P B turn e; cases e), (by intro dp q lv q' lv' c h a r O A P B turn e; cases e), (by intro dp q lv q' lv' c h a r O A P B turn e; cases e), (by intro dp q lv q' lv' c h a r O A P B turn e; cases e), (by intro dp q lv q' lv' c h a r O A P B turn e; cases e), (by intro dp q lv q' lv' c h a r O A P B turn e; cases e), (by intro dp q lv q' lv' c h lv0 c1 m1 a r O A P B O1 A1 P1 B1 e; cases e), (by intro dp q lv q' lv' c h lv0 c1 m1 a r O A P B O1 A1 P1 B1 e; cases e), (by intro dp q lv q' lv' c h lv0 c1 m1 a r O A P B O1 A1 P1 B1 e; cases e), (by intro dp q lv q' lv' c h lv0 c1 m1 a r O A P B O1 A1 P1 B1 e; cases e)⟩
  | n + 1 => by
    obtain ⟨a0, a1, a3, a5, a6, a8, a2, a4, a7, a9⟩ := m_all hd hL4 n
    exact ⟨mc_0 hd hL4 a3, mc_1 hd hL4 a0 a2, mc_3 hd hL4 a1 a4, mc_5 hd hL4 a3 a5 a8, mc_6 hd hL4 a5 a7, mc_8 hd hL4 a6 a9, mt_2 hd hL4 a0 a2, mt_4 hd hL4 a1 a4, mt_7 hd hL4 a5 a7, mt_9 hd hL4 a6 a9⟩
end

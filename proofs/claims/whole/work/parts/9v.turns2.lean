/-! law: the reference's reader, its turns as steps from state to state -/
section
variable {X : zX} {l : Launch} {d : Nat} {μ0 μ : zM} {T : Int → Int} {L q c h m dp lv : Nat} {O A P B : Int → Int} {t : Int} {Q : zM → Prop}
theorem zsr_lt (e : zsr T L q ≠ 0) : q < L := Decidable.byContradiction (fun z => e ((zsr_rng (T := T) (L := L) q).1.2 z))
theorem zwh_sr (e : zwh T L q ≠ -1) : zsr T L q = 1 := by
  refine Decidable.byContradiction (fun n => e ?_)
  have : ∀ n j, zwi T L q n j = -1 := by
    intro n
    induction n with
    | zero => intro j; rfl
    | succ n ihn => intro j; rw [zwi_no (fun y => by have := y.1; omega)]; exact ihn _
  exact this 12 0
theorem znh_sr (e : znh T L q ≠ -1) : zsr T L q = 2 ∧ znh T L q = znw T L q := by
  unfold znh at e ⊢
  split at e
  · rename_i h2
    rw [if_pos h2]
    split at e
    · exact absurd rfl e
    · rename_i h3
      rw [if_neg h3]
      exact ⟨h2, rfl⟩
  · exact absurd rfl e
/-- a leaf's op and what it is about -/
def zlo (T : Int → Int) (L q : Nat) : Int := if zwh T L q = -1 then 0 else zwh T L q + 1
def zla9 (T : Int → Int) (L q : Nat) : Int := if znh T L q = -1 then 0 else znh T L q
theorem kS_readPart {Q : Int → zM → Prop} (hd : 5 ≤ d) (k : zSm μ0 μ T L q c h dp lv O A P B) (v : zVd c h B) (hc : c + h ≤ q) (hp : dp ≤ 8)
    (h1 : zsg T L q 91 → dp < 8 → ∀ ν, zSm μ0 ν T L (znx T L q) c (h + 1) (dp + 1) lv O A (zsu P h 31) (zsu B h 0) → Q 1 ν)
    (h2 : ¬ zsg T L q 91 → (znh T L q ≠ -1 ∨ zwh T L q ≠ -1) → lv < 50 → ∀ ν, zSm μ0 ν T L (znx T L q) (c + 1) h dp (lv + 1) (zsu O c (zlo T L q)) (zsu A c (zla9 T L q)) P B → Q 3 ν)
    (h0 : (zsg T L q 91 ∧ ¬ dp < 8) ∨ (¬ zsg T L q 91 ∧ ¬ ((znh T L q ≠ -1 ∨ zwh T L q ≠ -1) ∧ lv < 50)) → ∀ x ν, zFl9 μ0 ν q → Q x ν) : zCi X true l d 0 0 y_M_readPart [(13, 0, 1320)] μ Q := by
  have kt := k.2.1
  have hqL := kt.2.2.2.2.2.2.1
  have hL4 := kt.2.2.2.2.2.2.2
  refine c_M_readPart (a0 := 1320) (d1 := d - 1) (by omega) (k_M_isSign kt (fun g => ⟨fun z => absurd z (by decide), fun _ => ?_⟩) (fun g => ⟨fun _ => ?_, fun z => absurd rfl z⟩))
  · have := zsr_lt (T := T) (L := L) (q := q) (by have := g.1; omega)
    exact kS_open (by omega) k v (by omega) hp (fun e ν f => h1 g e ν f) (fun e ν f => h0 (Or.inl ⟨g, e⟩) _ ν f)
  · have e10 : μ 1320 10 = zsr T L q := kt.2.2.2.2.1
    have e11 : μ 1320 11 = zwt T L q := kt.2.2.2.2.2.1
    -- the leaf with what stands here
    have leaf1 : ∀ (x2 as0 : Int), as0 = 1320 → (x2 = 0 ↔ znh T L q = -1) → (znh T L q ≠ -1 ∨ zwh T L q ≠ -1) → zE X true l d 0 0 y_M_readPart 57 [some (13, 0, 1320), some (0, 0, (if zwh T L q = -1 then -1 else zwh T L q + 1)), some (0, 0, x2)] [(13, 0, as0)] μ (zri Q) := fun x2 as0 ea hx hl => by
      subst ea
      have wr := zwh_rng (T := T) (L := L) (q := q)
      have ql : q < L := zsr_lt (T := T) (fun z0 => hl.elim (fun y => by have := (znh_sr y).1; omega) (fun y => by have := zwh_sr y; omega))
      refine s_M_readPart_57 (a0 := 1320) (d1 := d - 1) (by omega) ?_
      have eo : (if ¬ (if zwh T L q = -1 then -1 else zwh T L q + 1) = -1 then (if zwh T L q = -1 then -1 else zwh T L q + 1) else 0) = zlo T L q := by
        unfold zlo
        by_cases z : zwh T L q = -1
        · rw [if_pos z, if_pos z, if_neg (by decide)]
        · rw [if_neg z, if_neg z, if_pos (by omega)]
      have eb : (if x2 = 0 then 0 else zw (μ 1320 11)) = zla9 T L q := by
        unfold zla9
        by_cases z : znh T L q = -1
        · rw [if_pos z, if_pos (hx.2 z)]
        · rw [if_neg z, if_neg (fun y => z (hx.1 y)), e11]
          have s2 := znh_sr z
          have nr := znh_rng (T := T) hqL
          unfold zwt
          rw [if_neg (by omega), if_pos s2.1, ← s2.2, zw_of (by omega) (by omega)]
      rw [eo, eb]
      exact kS_leaf (by omega) k v (by omega) (fun _ e ν f => h2 g hl e ν f) (fun e ν f => h0 (Or.inr ⟨g, fun z => e.elim (fun y => absurd y (by decide)) (fun y => y z.2)⟩) _ ν f)
    have at46 : ∀ x2 : Int, (x2 = 0 ↔ znh T L q = -1) → zE X true l d 0 0 y_M_readPart 46 [some (13, 0, 1320), some (0, 0, (if zwh T L q = -1 then -1 else zwh T L q + 1)), none] [(0, 0, x2)] μ (zri Q) := fun x2 hx => by
      have wr := zwh_rng (T := T) (L := L) (q := q)
      refine s_M_readPart_46 (a0 := 1320) (d1 := d - 1) (by omega) ⟨fun e => leaf1 x2 1320 rfl hx (Or.inr (fun z => e (by rw [if_pos z]))), fun e => ⟨fun e2 => ?_, fun e2 => leaf1 x2 1320 rfl hx (Or.inl (fun z => e2 (hx.2 z)))⟩⟩
      by_cases c4 : c < 400
      · refine kS_leaf (by omega) k v c4 (fun z => absurd rfl z) (fun _ ν f => h0 (Or.inr ⟨g, fun z => ?_⟩) _ ν f)
        rcases z.1 with y | y
        · exact y (hx.1 e2)
        · rw [if_neg y] at e; omega
      · have k' := k
        obtain ⟨k1, k2, k3, k4, k5, k6, k7, k8, k9, k10, k11⟩ := k'
        refine c_M_leaf (a0 := 1320) ⟨fun _ => ?_, fun z => absurd rfl z⟩
        refine s_M_leaf_19 (a0 := 1320) (d1 := d - 2) (by omega) (kS_must (by omega) k v (fun z => absurd rfl z) (fun _ ν f => ⟨fun _ => h0 (Or.inr ⟨g, fun z => ?_⟩) _ ν f, fun z => ?_⟩))
        · rcases z.1 with y | y
          · exact y (hx.1 e2)
          · rw [if_neg y] at e; omega
        · have := f.2.1
          rw [this] at z
          exact absurd z (by decide)
    refine k_M_partAt (by omega) kt ⟨fun e => at46 0 ⟨fun _ => ?_, fun _ => rfl⟩, fun e => ⟨fun e2 => at46 0 ⟨fun _ => ?_, fun _ => rfl⟩, fun e2 => at46 1 ⟨fun z => absurd z (by decide), fun z => ?_⟩⟩⟩
    · rw [e10] at e
      unfold znh; rw [if_neg e]
    · rw [e10] at e
      rw [e11] at e2
      unfold zwt at e2
      rw [if_neg (by omega), if_pos e] at e2
      unfold zcmp at e2
      unfold znh
      rw [if_pos e]
      split at e2
      · rename_i z; rw [if_pos z]
      · split at e2 <;> omega
    · rw [e10] at e
      rw [e11] at e2
      unfold zwt at e2
      rw [if_neg (by omega), if_pos e] at e2
      exfalso
      apply e2
      unfold zcmp
      unfold znh at z
      rw [if_pos e] at z
      split at z
      · rename_i y; rw [if_pos y]; decide
      · have := (znf_nn (T := T) (q := q) (zen T L q - q) (fun i hi => zsr_2 (by have := zen_bd (T := T) hqL; rw [zen_in (Or.inr e) (by omega) (by omega)]; exact e))).1
        unfold znw at z
        omega
/-- T_PART, and T_PLAIN where no NOT and no bracket stands -/
theorem rx_part {turn : Int} (hd : 10 ≤ d) (v : zVd c h B) (hc : c + h ≤ q) (hp : dp ≤ 8) (ht : turn = 1 ∨ (turn = 0 ∧ ¬ ziw T L q 14836 ∧ ¬ zsg T L q 40))
    (h1 : zsg T L q 91 → dp < 8 → zRx X l d μ0 T L t Q 1 (znx T L q) c (h + 1) (dp + 1) lv O A (zsu P h 31) (zsu B h 0))
    (h2 : ¬ zsg T L q 91 → (znh T L q ≠ -1 ∨ zwh T L q ≠ -1) → lv < 50 → zRx X l d μ0 T L t Q 3 (znx T L q) (c + 1) h dp (lv + 1) (zsu O c (zlo T L q)) (zsu A c (zla9 T L q)) P B)
    (h0 : (zsg T L q 91 ∧ ¬ dp < 8) ∨ (¬ zsg T L q 91 ∧ ¬ ((znh T L q ≠ -1 ∨ zwh T L q ≠ -1) ∧ lv < 50)) → zRf X l d μ0 t Q q) : zRx X l d μ0 T L t Q turn q c h dp lv O A P B := by
  intro ν k
  rcases ht with rfl | ⟨rfl, n1, n2⟩
  · exact s_M_readExpression_20 (a0 := 1320) (d1 := d - 1) (by omega) ⟨fun z => absurd k.2.2.1 z, fun _ => ⟨fun z => absurd z (by decide), fun _ => ⟨fun _ => ⟨fun z => absurd rfl z, fun _ => kS_readPart (by omega) k v hc hp (fun a b ν f => h1 a b ν f) (fun a b e ν f => h2 a b e ν f) (fun a x ν f => h0 a x ν f)⟩, fun z => absurd z (by decide)⟩⟩⟩
  · refine s_M_readExpression_20 (a0 := 1320) (d1 := d - 1) (by omega) ⟨fun z => absurd k.2.2.1 z, fun _ => ⟨fun z => absurd z (by decide), fun _ => ⟨fun z => absurd rfl z, fun _ => ?_⟩⟩⟩
    refine c_M_readPlain (a0 := 1320) (d1 := d - 2) (by omega) (k_M_isWord k.2.1 (fun z => absurd z n1) (fun _ => ⟨fun _ => k_M_isSign k.2.1 (fun z => absurd z n2) (fun _ => ⟨fun _ => ?_, fun z => absurd rfl z⟩), fun z => absurd rfl z⟩))
    exact kS_readPart (by omega) k v hc hp (fun a b ν f => h1 a b ν f) (fun a b e ν f => h2 a b e ν f) (fun a x ν f => h0 a x ν f)
theorem rx_not (hd : 10 ≤ d) (hc : c + h ≤ q) (hqL : q ≤ L) (hL4 : L ≤ 400) (g : ziw T L q 14836) (h1 : zRx X l d μ0 T L t Q 0 (znx T L q) c (h + 1) dp lv O A (zsu P h 27) (zsu B h 0)) : zRx X l d μ0 T L t Q 0 q c h dp lv O A P B := by
  intro ν k
  have ql : q < L := zsr_lt (T := T) (by have := g.1; omega)
  refine s_M_readExpression_20 (a0 := 1320) (d1 := d - 1) (by omega) ⟨fun z => absurd k.2.2.1 z, fun _ => ⟨fun z => absurd z (by decide), fun _ => ⟨fun z => absurd rfl z, fun _ => ?_⟩⟩⟩
  exact c_M_readPlain (a0 := 1320) (d1 := d - 2) (by omega) (k_M_isWord k.2.1 (fun _ => ⟨fun z => absurd z (by decide), fun _ => kS_push k (by omega) (fun ν1 f1 => kS_next (by omega) f1 (fun ν2 f2 => h1 ν2 f2))⟩) (fun z => absurd g z))
theorem rx_round (hd : 10 ≤ d) (v : zVd c h B) (hc : c + h ≤ q) (hqL : q ≤ L) (hL4 : L ≤ 400) (hp : dp ≤ 8) (g : zsg T L q 40) (h1 : dp < 8 → zRx X l d μ0 T L t Q 0 (znx T L q) c (h + 1) (dp + 1) lv O A (zsu P h 30) (zsu B h 0)) (h0 : ¬ dp < 8 → zRf X l d μ0 t Q q) : zRx X l d μ0 T L t Q 0 q c h dp lv O A P B := by
  intro ν k
  have ql : q < L := zsr_lt (T := T) (by have := g.1; omega)
  refine s_M_readExpression_20 (a0 := 1320) (d1 := d - 1) (by omega) ⟨fun z => absurd k.2.2.1 z, fun _ => ⟨fun z => absurd z (by decide), fun _ => ⟨fun z => absurd rfl z, fun _ => ?_⟩⟩⟩
  exact c_M_readPlain (a0 := 1320) (d1 := d - 2) (by omega) (k_M_isWord k.2.1 (fun z => by have := z.1; have := g.1; omega) (fun _ => ⟨fun _ => k_M_isSign k.2.1 (fun _ => ⟨fun z => absurd z (by decide), fun _ => kS_open (by omega) k v (by omega) hp (fun e ν f => h1 e ν f) (fun e ν f => h0 e _ ν f)⟩) (fun z => absurd g z), fun z => absurd rfl z⟩))
/-- an operation of numbers -/
theorem rx_op {op : Int} (hd : 10 ≤ d) (v : zVd c (h + m) B) (hc : c + (h + m) ≤ q) (hqL : q ≤ L) (hL4 : L ≤ 400) (g : (zsg T L q 43 ∧ op = 20) ∨ (zsg T L q 45 ∧ op = 21) ∨ (zsg T L q 42 ∧ op = 22) ∨ (zsg T L q 47 ∧ op = 23)) (hj : ∀ j : Int, (h : Int) ≤ j → j < ((h + m : Nat) : Int) → zbi op ≤ zbi (P j)) (hb : h = 0 ∨ zbi (P ((h : Int) - 1)) < zbi op)
    (h1 : zRx X l d μ0 T L t Q 1 (znx T L q) (zVp P B m h (O, A, c)).2.2 (h + 1) dp lv (zVp P B m h (O, A, c)).1 (zVp P B m h (O, A, c)).2.1 (zsu P h op) (zsu B h 0)) : zRx X l d μ0 T L t Q 3 q c (h + m) dp lv O A P B := by
  intro ν k
  have s3 : zsr T L q = 3 := by rcases g with z | z | z | z <;> exact z.1.1
  have ql : q < L := zsr_lt (T := T) (by omega)
  refine s_M_readExpression_20 (a0 := 1320) (d1 := d - 1) (by omega) ⟨fun z => absurd k.2.2.1 z, fun _ => ⟨fun z => absurd z (by decide), fun _ => ⟨fun _ => ⟨fun _ => ⟨fun z => absurd rfl z, fun _ => ?_⟩, fun z => absurd z (by decide)⟩, fun z => absurd z (by decide)⟩⟩⟩
  have at57 : op ≠ -1 → zE X true l (d - 1) 0 0 y_M_behindSum 57 [some (13, 0, 1320), some (0, 0, t), none, none] [(0, 0, op)] ν (zri (fun v14 ν13 => zE X true l d 0 0 y_M_readExpression 20 [some (13, 0, 1320), some (0, 0, t), some (0, 0, v14)] [] ν13 (zrn Q))) := fun n => by
    refine s_M_behindSum_57 (a0 := 1320) (d1 := d - 2) (by omega) ⟨fun z => absurd z n, fun _ => k_M_binds (kS_settle (by omega) k v hj hb (fun ν1 f1 => kS_push f1 (by omega) (fun ν2 f2 => kS_next (by omega) f2 (fun ν3 f3 => h1 ν3 f3))))⟩
  refine c_M_behindSum (a0 := 1320) (d1 := d - 2) (by omega) ?_
  refine k_M_isSign k.2.1 (fun a => ⟨fun z => absurd z (by decide), fun _ => ?_⟩) (fun a0 => ⟨fun _ => ?_, fun z => absurd rfl z⟩)
  · have e : op = 20 := by have := a.2; rcases g with z | z | z | z <;> have := z.1.2 <;> omega
    rw [← e]; exact at57 (by omega)
  refine k_M_isSign k.2.1 (fun a => ⟨fun z => absurd z (by decide), fun _ => ?_⟩) (fun a1 => ⟨fun _ => ?_, fun z => absurd rfl z⟩)
  · have e : op = 21 := by have := a.2; rcases g with z | z | z | z <;> have := z.1.2 <;> omega
    rw [← e]; exact at57 (by omega)
  refine k_M_isSign k.2.1 (fun a => ⟨fun z => absurd z (by decide), fun _ => ?_⟩) (fun a2 => ⟨fun _ => ?_, fun z => absurd rfl z⟩)
  · have e : op = 22 := by have := a.2; rcases g with z | z | z | z <;> have := z.1.2 <;> omega
    rw [← e]; exact at57 (by omega)
  refine k_M_isSign k.2.1 (fun a => ?_) (fun a3 => ?_)
  · have e : op = 23 := by have := a.2; rcases g with z | z | z | z <;> have := z.1.2 <;> omega
    rw [if_neg (by decide), ← e]; exact at57 (by omega)
  · rcases g with z | z | z | z
    · exact absurd z.1 a0
    · exact absurd z.1 a1
    · exact absurd z.1 a2
    · exact absurd z.1 a3
/-- behind a sum, where no operation stands -/
theorem rx_sum (hd : 10 ≤ d) (n4 : zno4 T L q) (hn : ∀ ν, zSm μ0 ν T L q c h dp lv O A P B → zE X true l (d - 1) 0 0 y_M_behindSum 57 [some (13, 0, 1320), some (0, 0, t), none, none] [(0, 0, -1)] ν (zri (fun v14 ν13 => zE X true l d 0 0 y_M_readExpression 20 [some (13, 0, 1320), some (0, 0, t), some (0, 0, v14)] [] ν13 (zrn Q)))) : zRx X l d μ0 T L t Q 3 q c h dp lv O A P B := by
  intro ν k
  refine s_M_readExpression_20 (a0 := 1320) (d1 := d - 1) (by omega) ⟨fun z => absurd k.2.2.1 z, fun _ => ⟨fun z => absurd z (by decide), fun _ => ⟨fun _ => ⟨fun _ => ⟨fun z => absurd rfl z, fun _ => ?_⟩, fun z => absurd z (by decide)⟩, fun z => absurd z (by decide)⟩⟩⟩
  refine c_M_behindSum (a0 := 1320) (d1 := d - 2) (by omega) ?_
  refine k_M_isSign k.2.1 (fun a => absurd a n4.1) (fun _ => ⟨fun _ => ?_, fun z => absurd rfl z⟩)
  refine k_M_isSign k.2.1 (fun a => absurd a n4.2.1) (fun _ => ⟨fun _ => ?_, fun z => absurd rfl z⟩)
  refine k_M_isSign k.2.1 (fun a => absurd a n4.2.2.1) (fun _ => ⟨fun _ => ?_, fun z => absurd rfl z⟩)
  refine k_M_isSign k.2.1 (fun a => absurd a n4.2.2.2) (fun _ => ?_)
  rw [if_pos rfl]
  exact hn ν k
theorem zSm.p (k : zSm μ0 μ T L q c h dp lv O A P B) : μ 1329 = P := k.2.2.2.2.2.2.2.2.2.1
theorem rx_sq (hd : 10 ≤ d) (v : zVd c (h + 1 + m) B) (n4 : zno4 T L q) (hP : P h = 31) (hj : ∀ j : Int, ((h + 1 : Nat) : Int) ≤ j → j < ((h + 1 + m : Nat) : Int) → 5 ≤ zbi (P j)) (d4 : dp < 8)
    (h1 : zsg T L q 93 → zRx X l d μ0 T L t Q 3 (znx T L q) (zVp P B m (h + 1) (O, A, c)).2.2 h dp lv (zVp P B m (h + 1) (O, A, c)).1 (zVp P B m (h + 1) (O, A, c)).2.1 P B) (h0 : ¬ zsg T L q 93 → zRf X l d μ0 t Q q) : zRx X l d μ0 T L t Q 3 q c (h + 1 + m) (dp + 1) lv O A P B := by
  refine rx_sum hd n4 (fun ν k => ?_)
  have v1 := v.1
  have ein : zinn (ν 1329) (h + 1 + m) = 31 := by
    rw [k.p, zinn_up m (fun j a b => (zbi_rng.1 (by have := hj j a b; omega)))]
    show (if P h < 30 then zinn P h else P h) = 31
    rw [hP, if_neg (by decide)]
  refine s_M_behindSum_57 (a0 := 1320) (d1 := d - 2) (by omega) ⟨fun _ => k_M_inner k.2.2.2.2.1 (by omega) ?_, fun z => absurd rfl z⟩
  rw [ein]
  refine ⟨fun z => absurd rfl z, fun _ => ?_⟩
  have mu : ∀ x : Int, (x ≠ 0 → zsg T L q 93) → (x = 0 → ¬ zsg T L q 93) → zCv X true l (d - 2) 0 0 y_M_must [(13, 0, 1320), (0, 0, x)] ν (fun ν11 => ((¬ ν11 1320 13 = 0 → zri (fun v14 ν13 => zE X true l d 0 0 y_M_readExpression 20 [some (13, 0, 1320), some (0, 0, t), some (0, 0, v14)] [] ν13 (zrn Q)) (some (0, 0, 3)) ν11) ∧ (ν11 1320 13 = 0 → (zCv X true l (d - 2) 0 0 y_M_settle [(13, 0, 1320), (0, 0, 5)] ν11 (fun ν14 => zri (fun v14 ν13 => zE X true l d 0 0 y_M_readExpression 20 [some (13, 0, 1320), some (0, 0, t), some (0, 0, v14)] [] ν13 (zrn Q)) (some (0, 0, 3)) (zup (zup ν14 1320 22 (zw ((ν14 1320 22) - 1))) 1320 23 (zw (((zup ν14 1320 22 (zw ((ν14 1320 22) - 1))) 1320 23) - 1)))))))) := fun x hx hx0 => by
    refine kS_must (by omega) k v (fun e ν2 f => ⟨fun z => absurd f.2.2.1 z, fun _ => ?_⟩) (fun e ν2 f => ⟨fun _ => h0 (hx0 e) _ ν2 f, fun z => ?_⟩)
    · refine kS_settle (h := h + 1) (by omega) f v hj (Or.inr ?_) (fun ν3 f3 => h1 (hx e) _ (f3.back (by omega) d4))
      rw [show ((h + 1 : Nat) : Int) - 1 = h by omega, hP]; decide
    · have := f.2.1
      rw [this] at z
      exact absurd z (by decide)
  exact k_M_isSign k.2.1 (fun a => mu 1 (fun _ => a) (fun z => absurd z (by decide))) (fun a => mu 0 (fun z => absurd rfl z) (fun _ => a))
/-- no square bracket, and a test -/
theorem rx_149 (hd : 10 ≤ d) (h4 : h ≤ 400) (n4 : zno4 T L q) (hi : zinn P h = 30 ∨ (zinn P h = -1 ∧ t ≠ 0)) (hn : ∀ ν, zSm μ0 ν T L q c h dp lv O A P B → zE X true l (d - 1) 0 0 y_M_behindSum 149 [some (13, 0, 1320), none, none, none] [] ν (zri (fun v14 ν13 => zE X true l d 0 0 y_M_readExpression 20 [some (13, 0, 1320), some (0, 0, t), some (0, 0, v14)] [] ν13 (zrn Q)))) : zRx X l d μ0 T L t Q 3 q c h dp lv O A P B := by
  refine rx_sum hd n4 (fun ν k => ?_)
  refine s_M_behindSum_57 (a0 := 1320) (d1 := d - 2) (by omega) ⟨fun _ => k_M_inner k.2.2.2.2.1 h4 ?_, fun z => absurd rfl z⟩
  rw [k.p]
  rcases hi with e | ⟨e, ht⟩
  · rw [e]
    exact ⟨fun _ => ⟨fun _ => hn ν k, fun z => absurd z (by decide)⟩, fun z => absurd z (by decide)⟩
  · rw [e]
    exact ⟨fun _ => ⟨fun z => absurd rfl z, fun _ => ⟨fun _ => hn ν k, fun z => absurd z ht⟩⟩, fun z => absurd z (by decide)⟩
theorem rx_told (hd : 10 ≤ d) (h4 : h ≤ 400) (n4 : zno4 T L q) (hi : zinn P h = 30 ∨ (zinn P h = -1 ∧ t ≠ 0)) (hc : zcom P h = true) (h1 : zRx X l d μ0 T L t Q 2 q c h dp lv O A P B) : zRx X l d μ0 T L t Q 3 q c h dp lv O A P B := by
  refine rx_149 hd h4 n4 hi (fun ν k => ?_)
  refine s_M_behindSum_149 (a0 := 1320) (d1 := d - 2) (by omega) (k_M_isCompared (by omega) k.2.2.2.2.1 h4 ?_)
  rw [k.p, hc, if_pos rfl]
  exact ⟨fun z => absurd z (by decide), fun _ => h1 ν k⟩
theorem rx_cmp (hd : 10 ≤ d) (v : zVd c (h + m) B) (hc : c + (h + m) ≤ q) (hqL : q ≤ L) (hL4 : L ≤ 400) (n4 : zno4 T L q) (hi : zinn P (h + m) = 30 ∨ (zinn P (h + m) = -1 ∧ t ≠ 0)) (hcm : zcom P (h + m) = false) (hj : ∀ j : Int, (h : Int) ≤ j → j < ((h + m : Nat) : Int) → 5 ≤ zbi (P j)) (hb : h = 0 ∨ zbi (P ((h : Int) - 1)) < 5)
    (h1 : zsg T L q 60 ∨ zsg T L q 62 ∨ zsg T L q 61 → zRx X l d μ0 T L t Q 1 (znx T L q) (zVp P B m h (O, A, c)).2.2 (h + 1) dp lv (zVp P B m h (O, A, c)).1 (zVp P B m h (O, A, c)).2.1 (zsu P h (if T q = 60 then 24 else if T q = 62 then 25 else 26)) (zsu B h 0)) (h0 : ¬ (zsg T L q 60 ∨ zsg T L q 62 ∨ zsg T L q 61) → zRf X l d μ0 t Q q) : zRx X l d μ0 T L t Q 3 q c (h + m) dp lv O A P B := by
  have v1 := v.1
  refine rx_149 hd (by omega) n4 hi (fun ν k => ?_)
  refine s_M_behindSum_149 (a0 := 1320) (d1 := d - 2) (by omega) (k_M_isCompared (by omega) k.2.2.2.2.1 (by omega) ?_)
  rw [k.p, hcm, if_neg (by decide)]
  refine ⟨fun _ => ?_, fun z => absurd rfl z⟩
  have at205 : ∀ κ : Int, (zsg T L q 60 ∨ zsg T L q 62 ∨ zsg T L q 61) → κ = (if T q = 60 then 24 else if T q = 62 then 25 else 26) → zE X true l (d - 1) 0 0 y_M_behindSum 205 [some (13, 0, 1320), none, some (0, 0, κ), none] [(13, 0, 1320)] ν (zri (fun v14 ν13 => zE X true l d 0 0 y_M_readExpression 20 [some (13, 0, 1320), some (0, 0, t), some (0, 0, v14)] [] ν13 (zrn Q))) := fun κ g eκ => by
    have h1' := h1 g
    rw [← eκ] at h1'
    have ql : q < L := zsr_lt (T := T) (by rcases g with z | z | z <;> have := z.1 <;> omega)
    refine s_M_behindSum_205 (a0 := 1320) (d1 := d - 2) (by omega) (kS_must (by omega) k v (fun _ ν1 f1 => ⟨fun z => absurd f1.2.2.1 z, fun _ => kS_settle (by omega) f1 v hj hb (fun ν2 f2 => kS_push f2 (by omega) (fun ν3 f3 => h1' ν3 f3))⟩) (fun z => absurd z (by decide)))
  refine k_M_isSign k.2.1 (fun a => ⟨fun z => absurd z (by decide), fun _ => ?_⟩) (fun a0 => ⟨fun _ => ?_, fun z => absurd rfl z⟩)
  · exact s_M_behindSum_188 (a0 := 1320) (d1 := d - 2) (by omega) ⟨fun _ => at205 24 (Or.inl a) (by rw [if_pos a.2]), fun z => absurd z (by decide)⟩
  refine k_M_isSign k.2.1 (fun a => ?_) (fun a1 => ?_)
  · rw [if_neg (by decide)]
    exact s_M_behindSum_188 (a0 := 1320) (d1 := d - 2) (by omega) ⟨fun _ => at205 25 (Or.inr (Or.inl a)) (by rw [if_neg (fun z => a0 ⟨a.1, z⟩), if_pos a.2]), fun z => absurd z (by decide)⟩
  · rw [if_pos rfl]
    refine s_M_behindSum_188 (a0 := 1320) (d1 := d - 2) (by omega) ⟨fun z => absurd rfl z, fun _ => k_M_isSign k.2.1 (fun a => ⟨fun z => absurd z (by decide), fun _ => at205 26 (Or.inr (Or.inr a)) (by rw [if_neg (fun z => a0 ⟨a.1, z⟩), if_neg (fun z => a1 ⟨a.1, z⟩)])⟩) (fun a2 => ⟨fun _ => ?_, fun z => absurd rfl z⟩)⟩
    refine kS_must (by omega) k v (fun z => absurd rfl z) (fun _ ν2 f => ⟨fun _ => h0 (fun z => ?_) _ ν2 f, fun z => ?_⟩)
    · rcases z with y | y | y
      · exact a0 y
      · exact a1 y
      · exact a2 y
    · have := f.2.1
      rw [this] at z
      exact absurd z (by decide)
theorem rx_overS (hd : 10 ≤ d) (h4 : h ≤ 400) (n4 : zno4 T L q) (hi : zinn P h = -1) (ht : t = 0) (h1 : zRx X l d μ0 T L t Q 4 q c h dp lv O A P B) : zRx X l d μ0 T L t Q 3 q c h dp lv O A P B := by
  refine rx_sum hd n4 (fun ν k => ?_)
  refine s_M_behindSum_57 (a0 := 1320) (d1 := d - 2) (by omega) ⟨fun _ => k_M_inner k.2.2.2.2.1 h4 ?_, fun z => absurd rfl z⟩
  rw [k.p, hi]
  exact ⟨fun _ => ⟨fun z => absurd rfl z, fun _ => ⟨fun z => absurd ht z, fun _ => h1 ν k⟩⟩, fun z => absurd z (by decide)⟩
/-- AND, OR -/
theorem rx_and {op : Int} (hd : 10 ≤ d) (v : zVd c (h + m) B) (hc : c + (h + m) ≤ q) (hqL : q + 1 < L) (hL4 : L ≤ 400) (g : (ziw T L q 1476 ∧ op = 28) ∨ (ziw T L q 498 ∧ op = 29)) (hj : ∀ j : Int, (h : Int) ≤ j → j < ((h + m : Nat) : Int) → zbi op ≤ zbi (P j)) (hb : h = 0 ∨ zbi (P ((h : Int) - 1)) < zbi op)
    (h1 : zRx X l d μ0 T L t Q 0 (znx T L q) ((zVp P B m h (O, A, c)).2.2 + 1) (h + 1) dp lv (zsu (zVp P B m h (O, A, c)).1 (zVp P B m h (O, A, c)).2.2 op) (zsu (zVp P B m h (O, A, c)).2.1 (zVp P B m h (O, A, c)).2.2 0) (zsu P h op) (zsu B h (zVp P B m h (O, A, c)).2.2)) : zRx X l d μ0 T L t Q 2 q c (h + m) dp lv O A P B := by
  intro ν k
  have vc := zVp_c (P := P) (B := B) (x := (O, A, c)) m h
  have vc1 : (zVp P B m h (O, A, c)).2.2 ≤ c + m := vc.2
  refine s_M_readExpression_20 (a0 := 1320) (d1 := d - 1) (by omega) ⟨fun z => absurd k.2.2.1 z, fun _ => ⟨fun z => absurd z (by decide), fun _ => ⟨fun _ => ⟨fun _ => ⟨fun _ => ?_, fun z => absurd z (by decide)⟩, fun z => absurd z (by decide)⟩, fun z => absurd z (by decide)⟩⟩⟩
  have at22 : ∀ x : Int, (if x = 0 then (29 : Int) else 28) = op → (if x = 0 then (1 : Int) else 2) = zbi op → zE X true l (d - 1) 0 0 y_M_behindTest 22 [some (13, 0, 1320), some (0, 0, x)] [] ν (zri (fun v14 ν13 => zE X true l d 0 0 y_M_readExpression 20 [some (13, 0, 1320), some (0, 0, t), some (0, 0, v14)] [] ν13 (zrn Q))) := fun x e1 e2 => by
    refine s_M_behindTest_22 (a0 := 1320) (d1 := d - 2) (by omega) ?_
    rw [e1, e2]
    refine kS_settle (by omega) k v hj hb (fun ν1 f1 => ?_)
    rw [f1.2.2.2.1]
    exact kS_push f1 (by omega) (fun ν2 f2 => kS_emit f2 (by omega) (fun ν3 f3 => kS_next (by omega) f3 (fun ν4 f4 => h1 ν4 f4)))
  refine c_M_behindTest (a0 := 1320) (d1 := d - 2) (by omega) ?_
  refine k_M_isWord k.2.1 (fun a => ⟨fun _ => at22 1 ?_ ?_, fun z => absurd z (by decide)⟩) (fun a => ⟨fun z => absurd rfl z, fun _ => ?_⟩)
  · have e : op = 28 := by rcases g with z | z; exact z.2; have := z.1.2; have := a.2; omega
    rw [e]; rfl
  · have e : op = 28 := by rcases g with z | z; exact z.2; have := z.1.2; have := a.2; omega
    rw [e]; rfl
  · refine k_M_isWord k.2.1 (fun b => ⟨fun z => absurd z (by decide), fun _ => at22 0 ?_ ?_⟩) (fun b => ?_)
    · have e : op = 29 := by rcases g with z | z; exact absurd z.1 a; exact z.2
      rw [e]; rfl
    · have e : op = 29 := by rcases g with z | z; exact absurd z.1 a; exact z.2
      rw [e]; rfl
    · exact absurd g (fun z => z.elim (fun y => a y.1) (fun y => b y.1))
theorem rx_test (hd : 10 ≤ d) (h4 : h ≤ 400) (n1 : ¬ ziw T L q 1476) (n2 : ¬ ziw T L q 498) (hn : ∀ ν, zSm μ0 ν T L q c h dp lv O A P B → (¬ zinn P h = -1 → ∀ x : Int, (x ≠ 0 → zsg T L q 41) → (x = 0 → ¬ zsg T L q 41) → zCv X true l (d - 2) 0 0 y_M_must [(13, 0, 1320), (0, 0, x)] ν (fun ν16 => ((¬ ν16 1320 13 = 0 → zE X true l d 0 0 y_M_readExpression 20 [some (13, 0, 1320), some (0, 0, t), some (0, 0, 2)] [] ν16 (zrn Q)) ∧ (ν16 1320 13 = 0 → (zCv X true l (d - 2) 0 0 y_M_settle [(13, 0, 1320), (0, 0, 1)] ν16 (fun ν19 => zE X true l d 0 0 y_M_readExpression 20 [some (13, 0, 1320), some (0, 0, t), some (0, 0, 2)] [] (zup (zup ν19 1320 22 (zw ((ν19 1320 22) - 1))) 1320 23 (zw (((zup ν19 1320 22 (zw ((ν19 1320 22) - 1))) 1320 23) - 1))) (zrn Q))))))) ∧ (zinn P h = -1 → zE X true l d 0 0 y_M_readExpression 20 [some (13, 0, 1320), some (0, 0, t), some (0, 0, 4)] [] ν (zrn Q))) : zRx X l d μ0 T L t Q 2 q c h dp lv O A P B := by
  intro ν k
  refine s_M_readExpression_20 (a0 := 1320) (d1 := d - 1) (by omega) ⟨fun z => absurd k.2.2.1 z, fun _ => ⟨fun z => absurd z (by decide), fun _ => ⟨fun _ => ⟨fun _ => ⟨fun _ => ?_, fun z => absurd z (by decide)⟩, fun z => absurd z (by decide)⟩, fun z => absurd z (by decide)⟩⟩⟩
  refine c_M_behindTest (a0 := 1320) (d1 := d - 2) (by omega) ?_
  refine k_M_isWord k.2.1 (fun a => absurd a n1) (fun _ => ⟨fun z => absurd rfl z, fun _ => ?_⟩)
  refine k_M_isWord k.2.1 (fun a => absurd a n2) (fun _ => ⟨fun _ => ?_, fun z => absurd rfl z⟩)
  refine k_M_inner k.2.2.2.2.1 h4 ?_
  rw [k.p]
  exact ⟨fun e => k_M_isSign k.2.1 (fun a => (hn ν k).1 e 1 (fun _ => a) (fun z => absurd z (by decide))) (fun a => (hn ν k).1 e 0 (fun z => absurd rfl z) (fun _ => a)), fun e => (hn ν k).2 e⟩
theorem rx_overT (hd : 10 ≤ d) (h4 : h ≤ 400) (n1 : ¬ ziw T L q 1476) (n2 : ¬ ziw T L q 498) (hi : zinn P h = -1) (h1 : zRx X l d μ0 T L t Q 4 q c h dp lv O A P B) : zRx X l d μ0 T L t Q 2 q c h dp lv O A P B :=
  rx_test hd h4 n1 n2 (fun ν k => ⟨fun e => absurd hi e, fun _ => h1 ν k⟩)
theorem rx_close (hd : 10 ≤ d) (v : zVd c (h + 1 + m) B) (n1 : ¬ ziw T L q 1476) (n2 : ¬ ziw T L q 498) (hP : P h = 30) (hj : ∀ j : Int, ((h + 1 : Nat) : Int) ≤ j → j < ((h + 1 + m : Nat) : Int) → 1 ≤ zbi (P j)) (d4 : dp < 8)
    (h1 : zsg T L q 41 → zRx X l d μ0 T L t Q 2 (znx T L q) (zVp P B m (h + 1) (O, A, c)).2.2 h dp lv (zVp P B m (h + 1) (O, A, c)).1 (zVp P B m (h + 1) (O, A, c)).2.1 P B) (h0 : ¬ zsg T L q 41 → zRf X l d μ0 t Q q) : zRx X l d μ0 T L t Q 2 q c (h + 1 + m) (dp + 1) lv O A P B := by
  have v1 := v.1
  refine rx_test hd (by omega) n1 n2 (fun ν k => ⟨fun _ x hx hx0 => ?_, fun e => ?_⟩)
  · refine kS_must (by omega) k v (fun e ν2 f => ⟨fun z => absurd f.2.2.1 z, fun _ => ?_⟩) (fun e ν2 f => ⟨fun _ => h0 (hx0 e) _ ν2 f, fun z => ?_⟩)
    · refine kS_settle (h := h + 1) (by omega) f v hj (Or.inr ?_) (fun ν3 f3 => h1 (hx e) _ (f3.back (by omega) d4))
      rw [show ((h + 1 : Nat) : Int) - 1 = h by omega, hP]; decide
    · have := f.2.1
      rw [this] at z
      exact absurd z (by decide)
  · rw [zinn_up m (fun j a b => (zbi_rng.1 (hj j a b)))] at e
    have e' : (if P h < 30 then zinn P h else P h) = -1 := e
    rw [hP, if_neg (by decide)] at e'
    exact absurd e' (by decide)
/-- T_OVER -/
theorem rx_over (hd : 10 ≤ d) (v : zVd c m B) (hj : ∀ j : Int, 0 ≤ j → j < m → 1 ≤ zbi (P j)) (h1 : ∀ ν, zSm μ0 ν T L q (zVp P B m 0 (O, A, c)).2.2 0 dp lv (zVp P B m 0 (O, A, c)).1 (zVp P B m 0 (O, A, c)).2.1 P B → Q ν) : zRx X l d μ0 T L t Q 4 q c m dp lv O A P B := by
  intro ν k
  refine s_M_readExpression_20 (a0 := 1320) (d1 := d - 1) (by omega) ⟨fun z => absurd k.2.2.1 z, fun _ => ⟨fun _ => ?_, fun z => absurd rfl z⟩⟩
  have k' : zSm μ0 ν T L q c (0 + m) dp lv O A P B := by rw [Nat.zero_add]; exact k
  exact kS_settle (h := 0) (m := m) (by omega) k' (by rw [Nat.zero_add]; exact v) (fun j a b => hj j (by omega) (by omega)) (Or.inl rfl) h1
/-- bad: the loop ends -/
theorem rx_fail (hd : 10 ≤ d) (h1 : ∀ ν, zFw μ0 ν → ν 1320 13 = 1 → ν 1320 12 = q → (∃ c : Nat, ν 1320 16 = c ∧ c ≤ 400) → Q ν) : zRf X l d μ0 t Q q := by
  intro turn ν f
  obtain ⟨f1, f2, f3, c, h, f4, f5, f6, f7⟩ := f
  refine s_M_readExpression_20 (a0 := 1320) (d1 := d - 1) (by omega) ⟨fun _ => ?_, fun z => by rw [f2] at z; exact absurd z (by decide)⟩
  have low : ∀ h : Nat, ∃ h0 m : Nat, h0 + m = h ∧ (∀ j : Int, (h0 : Int) ≤ j → j < ((h0 + m : Nat) : Int) → 1 ≤ zbi (ν 1329 j)) ∧ (h0 = 0 ∨ zbi (ν 1329 ((h0 : Int) - 1)) < 1) := by
    intro h
    induction h with
    | zero => exact ⟨0, 0, rfl, fun j a b => by omega, Or.inl rfl⟩
    | succ h ih =>
      by_cases e : zbi (ν 1329 h) < 1
      · exact ⟨h + 1, 0, rfl, fun j a b => by omega, Or.inr (by rw [show ((h + 1 : Nat) : Int) - 1 = h by omega]; exact e)⟩
      · obtain ⟨h0, m, a, b, c⟩ := ih
        refine ⟨h0, m + 1, by omega, fun j a1 b1 => ?_, c⟩
        by_cases e2 : j = h
        · rw [e2]; omega
        · exact b j a1 (by omega)
  obtain ⟨h0, m, a, b, e⟩ := low h
  refine k_M_settle (h := h0) (m := m) (by omega) (by rw [a]; exact f5) f4 (by omega) (fun j h1 h2 => ⟨b j h1 h2, f7 j (by omega) (by omega)⟩) e (fun ν2 g n1 n2 n3 n4 => h1 ν2 ⟨fun b h1 h2 h3 h4 h5 => (g.1 b h1 h2 h3).trans (f1.1 b h1 h2 h3 h4 h5), fun j h1 h2 h3 h4 h5 => (g.2 j h2 h4).trans (f1.2 j h1 h2 h3 h4 h5)⟩ (by rw [g.2 13 (by decide) (by decide)]; exact f2) (by rw [g.2 12 (by decide) (by decide)]; exact f3) ⟨_, n3, ?_⟩)
  have := (zVp_c (P := ν 1329) (B := ν 1330) (x := (ν 1327, ν 1328, c)) m h0).2
  have : (zVp (ν 1329) (ν 1330) m h0 (ν 1327, ν 1328, c)).2.2 ≤ c + m := this
  omega
end

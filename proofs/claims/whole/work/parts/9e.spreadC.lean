/-! EACH: the class spreads one state -/
theorem zeb_01 : ∀ a, a < 32 → ∀ p, p < 5 → zand (zshr (a : Nat) (p : Nat)) 1 = 0 ∨ zand (zshr (a : Nat) (p : Nat)) 1 = 1 := by decide +kernel
theorem zeb_or0 : ∀ a, a < 32 → zor (a : Nat) 0 = (a : Nat) := by decide +kernel
theorem zeb_31 : ∀ a, a < 32 → zand (a : Nat) 31 = (a : Nat) := by decide +kernel
theorem zeb_le : ∀ a, a < 32 → ∀ s, s < 32 → zand (a : Nat) (zxor (s : Nat) (-1)) = 0 → a ≤ s := by decide +kernel
theorem zeb_low : ∀ m, m < 6 → ∀ x, x < 32 → (∀ p, p < 5 → m ≤ p → ¬ zand (zshr (x : Nat) (p : Nat)) 1 = 1) → x < 2 ^ m := by decide +kernel
theorem zthrees_H : ∀ m, m < 6 → ∀ k, k < 2 ^ m → zthrees k = (zeH (fun p => if zand (zshr (k : Nat) (p : Nat)) 1 = 1 then 1 else 0) 0 m : Nat) := by decide +kernel
theorem zeH_add {f h : Nat → Nat} : ∀ n k : Nat, zeH f k n + 2 * zeH h k n = zeH (fun p => f p + 2 * h p) k n
  | 0, _ => rfl
  | n + 1, k => by
    have := zeH_add (f := f) (h := h) n (k + 1)
    show 3 * zeH f (k + 1) n + f k + 2 * (3 * zeH h (k + 1) n + h k) = 3 * zeH (fun p => f p + 2 * h p) (k + 1) n + (f k + 2 * h k)
    omega
theorem zeH_congr {f h : Nat → Nat} : ∀ n k : Nat, (∀ p, p < k + n → f p = h p) → zeH f k n = zeH h k n
  | 0, _, _ => rfl
  | n + 1, k, e => by
    have := zeH_congr n (k + 1) (fun p hp => e p (by omega))
    show 3 * zeH f (k + 1) n + f k = 3 * zeH h (k + 1) n + h k
    rw [this, e k (by omega)]
theorem zeb_Z {x : Int} (h : 0 ≤ x ∧ x < 32) (p : Nat) (hp : p < 5) : zand (zshr x (p : Nat)) 1 = 0 ∨ zand (zshr x (p : Nat)) 1 = 1 := by
  have := zeb_01 x.toNat (by omega) p hp
  rw [Int.toNat_of_nonneg h.1] at this
  exact this
/-- those who sit, but one -/
def zeO (who m t : Nat) : Int := zmsk (fun p => decide (zeF t p.toNat = 0 ∧ p.toNat ≠ who)) m
theorem zeO_b {who m t : Nat} (hm : m ≤ 5) : (0 ≤ zeO who m t ∧ zeO who m t < 32) ∧ ∀ p : Nat, p < 5 → (zand (zshr (zeO who m t) (p : Nat)) 1 = 1 ↔ (p < m ∧ zeF t p = 0 ∧ p ≠ who)) := by
  have := zmsk_b (f := fun p => decide (zeF t p.toNat = 0 ∧ p.toNat ≠ who)) m hm
  refine ⟨this.1, fun p hp => (this.2 p hp).trans ?_⟩
  rw [decide_eq_true_iff, Int.toNat_natCast]
theorem zeO_s {who m t : Nat} : zeO who (m + 1) t = zor (zeO who m t) (if zeF t m = 0 ∧ m ≠ who then zshl 1 m else 0) := by
  show zor _ (if decide (zeF t (m : Int).toNat = 0 ∧ (m : Int).toNat ≠ who) = true then _ else _) = _
  rw [Int.toNat_natCast]
  congr 1
  by_cases c : zeF t m = 0 ∧ m ≠ who
  · rw [if_pos c, if_pos (decide_eq_true c)]
  · rw [if_neg c, if_neg (fun e => c (of_decide_eq_true e))]
/-- stirs or gone -/
theorem zeOr {m t : Nat} (hm : m ≤ 5) : (0 ≤ zor (zeS 1 m t) (zeS 2 m t) ∧ zor (zeS 1 m t) (zeS 2 m t) < 32) ∧ (∀ p : Nat, p < 5 → (zand (zshr (zor (zeS 1 m t) (zeS 2 m t)) (p : Nat)) 1 = 1 ↔ (p < m ∧ ¬ zeF t p = 0))) ∧ (zor (zeS 1 m t) (zeS 2 m t)).toNat < 2 ^ m := by
  have a := zeS_b (k := 1) (t := t) hm
  have b := zeS_b (k := 2) (t := t) hm
  have o := zb_or a.1 b.1
  have e : ∀ p : Nat, p < 5 → (zand (zshr (zor (zeS 1 m t) (zeS 2 m t)) (p : Nat)) 1 = 1 ↔ (p < m ∧ ¬ zeF t p = 0)) := fun p hp => by
    have h1 : zbt (zor (zeS 1 m t) (zeS 2 m t)) p ↔ _ := o.2 p hp
    unfold zbt at h1
    rw [h1, a.2 p hp, b.2 p hp]
    have : zeF t p < 3 := Nat.mod_lt _ (by decide)
    omega
  refine ⟨o.1, e, zeb_low m (by omega) _ (by omega) (fun p hp hmp q => ?_)⟩
  rw [Int.toNat_of_nonneg o.1.1] at q
  have := (e p hp).mp q
  omega
theorem zeG_thr {m t go : Nat} (hm : m ≤ 5) (hg : go < 2 ^ m) (hs : ∀ p : Nat, p < m → zand (zshr (go : Nat) (p : Nat)) 1 = 1 → zeF t p = 0) : zthrees go + 2 * zthrees (zor (zeS 1 m t) (zeS 2 m t)).toNat = (zeG m t go : Nat) := by
  have o := zeOr (t := t) hm
  rw [zthrees_H m (by omega) go hg, zthrees_H m (by omega) _ o.2.2, Int.toNat_of_nonneg o.1.1]
  have := zeH_add (f := fun p => if zand (zshr (go : Nat) (p : Nat)) 1 = 1 then 1 else 0) (h := fun p => if zand (zshr (zor (zeS 1 m t) (zeS 2 m t)) (p : Nat)) 1 = 1 then 1 else 0) m 0
  unfold zeG
  rw [show zeH (zeD t go) 0 m = _ from zeH_congr (h := fun p => (if zand (zshr (go : Nat) (p : Nat)) 1 = 1 then 1 else 0) + 2 * (if zand (zshr (zor (zeS 1 m t) (zeS 2 m t)) (p : Nat)) 1 = 1 then 1 else 0)) m 0 (fun p hp => ?_), ← this]
  · omega
  · have hb := o.2.1 p (by omega)
    have hq := hs p (by omega)
    unfold zeD
    by_cases c : zeF t p = 0
    · rw [if_pos c, if_neg (fun z => (hb.mp z).2 c)]
      rfl
    · rw [if_neg c, if_neg (fun z => c (hq z)), if_pos (hb.mpr ⟨by omega, c⟩)]
theorem zeP_one {f : Nat → Int} {w : Nat} (hf : ∀ p, 0 ≤ f p ∧ f p ≤ 100) : ∀ k : Nat, 0 ≤ zeP (fun q => if q = w then 1 else f q) k ∧ zeP (fun q => if q = w then 1 else f q) k ≤ 100 ^ (if w < k then k - 1 else k)
  | 0 => by
    refine ⟨by show (0 : Int) ≤ 1; decide, ?_⟩
    rw [if_neg (by omega)]
    exact Int.le_refl 1
  | k + 1 => by
    have a := zeP_one (w := w) hf k
    show 0 ≤ zeP _ k * (if k = w then 1 else f k) ∧ zeP _ k * (if k = w then 1 else f k) ≤ _
    by_cases c : k = w
    · rw [if_pos c, Int.mul_one, if_pos (by omega)]
      rw [if_neg (by omega)] at a
      exact a
    · rw [if_neg c]
      have b := hf k
      have e := zmulb a.1 a.2 b.1 b.2
      by_cases c2 : w < k
      · rw [if_pos c2] at e
        rw [if_pos (by omega), show k + 1 - 1 = (k - 1) + 1 by omega, Int.pow_succ]
        exact e
      · rw [if_neg c2] at e
        rw [if_neg (by omega), Int.pow_succ]
        exact e
section
variable {X : zX} {l : Launch} {d : Nat} {μ : zM}
theorem k_waysToGo {m t who go : Nat} {ch : Nat → Int} {Q : Int → zM → Prop} (m5 : m ≤ 5) (hw : who < m) (h3 : μ 105 3 = m) (h1 : μ 105 1 = who) (hg : go < 2 ^ m) (hch : ∀ p, 0 ≤ ch p ∧ ch p ≤ 100) (hc : ∀ p : Nat, p < m → zeF t p = 0 → μ 123 p = ch p) (hs : ∀ p : Nat, p < m → zand (zshr (go : Nat) (p : Nat)) 1 = 1 → zeF t p = 0) (hQ : Q (zeP (fun q => if q = who then 1 else zeW ch t go q) m) μ) : zCi X true l d 0 0 y_Reckoner_waysToGo [(6, 0, 105), (0, 0, zeO who m t), (0, 0, (go : Int))] μ Q := by
  have O := zeO_b (who := who) (t := t) m5
  have two := zpow2 m5
  have Wb : ∀ p : Nat, 0 ≤ zeW ch t go p ∧ zeW ch t go p ≤ 100 := fun p => zeW_bd hch
  have loop : ∀ k i : Nat, i + k = m → zE X true l d 0 0 y_Reckoner_waysToGo 5 [some (6, 0, 105), some (0, 0, zeO who m t), some (0, 0, (go : Int)), some (0, 0, zeP (fun q => if q = who then 1 else zeW ch t go q) i), some (0, 0, (i : Int)), none] [] μ (zri Q) := by
    intro k
    induction k with
    | zero =>
      intro i hi
      obtain rfl : i = m := by omega
      exact s_Reckoner_waysToGo_5 (a0 := 105) ⟨fun _ => hQ, fun c => absurd (by omega) c⟩
    | succ k ih =>
      intro i hi
      have nx := ih (i + 1) (by omega)
      have pb := zeP_one (w := who) Wb i
      have hp4 : (100 : Int) ^ (if who < i then i - 1 else i) ≤ 100 ^ 4 := zhm_mono (by split <;> omega)
      have e4 : (100 : Int) ^ 4 = 100000000 := by decide
      rw [e4] at hp4
      have st : zeP (fun q => if q = who then 1 else zeW ch t go q) (i + 1) = zeP (fun q => if q = who then 1 else zeW ch t go q) i * (if i = who then 1 else zeW ch t go i) := rfl
      have pb2 := zeP_one (w := who) Wb (i + 1)
      have hp5 : (100 : Int) ^ (if who < i + 1 then i + 1 - 1 else i + 1) ≤ 100 ^ 4 := zhm_mono (by split <;> omega)
      rw [e4] at hp5
      have bO := O.2 i (by omega)
      have b01 := zeb_Z O.1 i (by omega)
      have g01 := zeb_01 go (by omega) i (by omega)
      refine s_Reckoner_waysToGo_5 (a0 := 105) ⟨fun c => absurd c (by omega), fun _ => ⟨fun c => absurd c (by omega), fun _ => ⟨fun c => ⟨fun z => ?_, fun z => ?_⟩, fun c => ?_⟩⟩⟩
      · have iw : ¬ i = who := by omega
        have f0 : zeF t i = 0 := (bO.mp (by omega)).2.1
        have e5 := hc i (by omega) f0
        have cb := hch i
        rw [st, if_neg iw] at nx pb2
        refine ⟨⟨fun _ => by omega, fun _ => by omega⟩, ?_⟩
        simp only [Int.reduceAdd]
        rw [e5]
        have ew : (if (if ¬ zand (zshr (go : Int) (i : Int)) 1 = 1 then (0 : Int) else 1) = 0 then zw (100 - ch i) else ch i) = zeW ch t go i := by
          unfold zeW
          by_cases q : zand (zshr (go : Int) (i : Int)) 1 = 1
          · rw [if_neg (show ¬ ¬ zand (zshr (go : Int) (i : Int)) 1 = 1 from fun w => w q), if_neg (by decide), if_pos q, if_pos f0]
          · rw [if_pos (show ¬ zand (zshr (go : Int) (i : Int)) 1 = 1 from q), if_pos rfl, if_neg q, if_pos f0, zw_of (by omega) (by omega)]
        rw [ew, zw_of (by omega) (by omega), zw_of (by omega) (by omega)]
        exact nx
      · have iw : ¬ i = who := by omega
        have f0 : ¬ zeF t i = 0 := fun q => by
          have := bO.mpr ⟨by omega, q, iw⟩
          omega
        have g0 : ¬ zand (zshr (go : Nat) (i : Nat)) 1 = 1 := fun q => f0 (hs i (by omega) q)
        have ew : zeW ch t go i = 100 := by unfold zeW; rw [if_neg g0, if_neg f0]
        rw [st, if_neg iw, ew] at nx pb2
        rw [zw_of (by omega) (by omega), zw_of (by omega) (by omega)]
        exact nx
      · have iw : i = who := by omega
        rw [st, if_pos iw, Int.mul_one] at nx
        rw [zw_of (by omega) (by omega)]
        exact nx
  exact c_Reckoner_waysToGo (loop m 0 (by omega))
end
/-- the chance, and none at a glance beyond the twelfth -/
def zcg (δ : Nat → Int → Int) (law : Option zLaw) (wo p g s go : Int) : Int := if g < 12 then zcha δ law wo p g s go else 0
theorem zcg_bd {δ : Nat → Int → Int} {law : Option zLaw} {wo p g s go : Int} : 0 ≤ zcg δ law wo p g s go ∧ zcg δ law wo p g s go ≤ 100 := by
  unfold zcg
  split
  · exact zcha_bd
  · omega
theorem z130 {n : Nat} (h : n ≤ 65) : (100 : Int) ^ n < zpw 15 := by
  rw [zhun, zpw_ten]
  have := zten_mono (m := 2 * n) (n := 134) (by omega)
  have e : (10 : Int) ^ (9 * 15) = 10 ^ 134 * 10 := by decide
  have := zten_pos 134
  omega
section
variable {X : zX} {l : Launch} {d : Nat} {μ : zM}
theorem k_chanceOf12 {δ : Nat → Int → Int} {law : Option zLaw} {p g s go : Int} {Q : Int → zM → Prop} (hd : 2 ≤ d) (hC : zCd μ δ) (hD : zDb δ) (hW : zCL μ law) (p0 : 0 ≤ p) (p1 : p < 5) (g0 : 0 ≤ g) (hQ : ∀ ν, (∀ b : Int, b ≠ 119 → b ≠ 120 → ν b = μ b) → Q (zcg δ law (μ 106 5) p g s go) ν) : zCi X true l d 0 0 y_Scene_chanceOf [(10, 0, 106), (0, 0, p), (0, 0, g), (0, 0, s), (0, 0, go)] μ Q := by
  unfold zcg at hQ
  by_cases c : g < 12
  · rw [if_pos c] at hQ
    exact k_chanceOf hd hC hD hW p0 p1 g0 c hQ
  · rw [if_neg c] at hQ
    exact c_Scene_chanceOf (a0 := 106) (d1 := 1) (by omega) (k_S_isPerson (fun _ _ => ⟨fun q => absurd q (by decide), fun _ => ⟨fun q => absurd q (by omega), fun _ => ⟨fun _ => hQ μ (fun _ _ _ => rfl), fun q => absurd (by omega) q⟩⟩⟩) (fun q => absurd ⟨p0, p1⟩ q))
theorem k_stepTogether12 {δ : Nat → Int → Int} {law : Option zLaw} {m G : Nat} {v : Int} {Q : zM → Prop} (hd : 3 ≤ d) (hC : zCd μ δ) (hD : zDb δ) (hL : zCL μ law) (hm : μ 105 3 = m) (m5 : m ≤ 5) (hg : μ 105 2 = G) (g12 : G ≤ 12) (hv : zBv μ 128 15 v) (v1 : v ≤ 100 ^ (m * G))
    (hQ : ∀ ν, (∀ b : Int, b ≠ 105 → b ≠ 119 → b ≠ 120 → b ≠ 128 → b ≠ 129 → ν b = μ b) → (∀ j : Int, j ≠ 2 → ν 105 j = μ 105 j) → ν 105 2 = ((G + 1 : Nat) : Int) → zBv ν 128 15 (v * zpr (fun p => zcg δ law (μ 106 5) p G 0 0) m) → Q ν) : zCv X true l d 0 0 y_Reckoner_stepTogether [(6, 0, 105)] μ Q := by
  have cb : ∀ p : Int, 0 ≤ zcg δ law (μ 106 5) p G 0 0 ∧ zcg δ law (μ 106 5) p G 0 0 ≤ 100 := fun p => zcg_bd
  have v0 := hv.bd.1
  have loop : ∀ k i : Nat, i + k = m → ∀ ν : zM, (∀ b : Int, b ≠ 119 → b ≠ 120 → b ≠ 128 → b ≠ 129 → ν b = μ b) → zBv ν 128 15 (v * zpr (fun p => zcg δ law (μ 106 5) p G 0 0) i) → zE X true l d 0 0 y_Reckoner_stepTogether 2 [some (6, 0, 105), some (0, 0, (i : Int))] [] ν (zrn Q) := by
    intro k
    induction k with
    | zero =>
      intro i hi ν n1 n2
      obtain rfl : i = m := by omega
      have e105 : ν 105 = μ 105 := n1 105 (by decide) (by decide) (by decide) (by decide)
      refine s_Reckoner_stepTogether_2 (a0 := 105) (d1 := 2) (by omega) ⟨fun _ => hQ _ (fun b b0 b1 b2 b3 b4 => ?_) (fun j hj => ?_) ?_ (n2.keep (zup_ne (by decide)) (zup_ne (by decide))), fun c => absurd (by rw [e105]; omega) c⟩
      · rw [zup_ne b0]; exact n1 b b1 b2 b3 b4
      · rw [zup_miss (by omega), e105]
      · rw [zup_hit, e105, hg, zw_of (by omega) (by omega)]
        rfl
    | succ k ih =>
      intro i hi ν n1 n2
      have e105 : ν 105 = μ 105 := n1 105 (by decide) (by decide) (by decide) (by decide)
      have e106 : ν 106 = μ 106 := n1 106 (by decide) (by decide) (by decide) (by decide)
      refine s_Reckoner_stepTogether_2 (a0 := 105) (d1 := 2) (by omega) ⟨fun c => absurd c (by rw [e105]; omega), fun _ => ⟨fun c => absurd c (by omega), fun _ => ?_⟩⟩
      rw [e105, hg]
      refine k_chanceOf12 (by omega) (hC.keep (fun b b0 b1 => n1 b (by omega) (by omega) (by omega) (by omega))) hD (hL.keep (fun b b0 => n1 b (by omega) (by omega) (by omega) (by omega))) (by omega) (by omega) (by omega) (fun ν2 t1 => ?_)
      rw [e106]
      have cc := cb i
      rw [zw_of (x := 100 - _) (by omega) (by omega)]
      have pb := zpr_bd (c := fun p => zcg δ law (μ 106 5) p G 0 0) cb i
      have hb2 := zmulb v0 v1 pb.1 pb.2
      rw [← Int.pow_add] at hb2
      have lim : v * zpr (fun p => zcg δ law (μ 106 5) p G 0 0) i * (100 - zcg δ law (μ 106 5) i G 0 0) < zpw 15 := by
        have h3 := zmulb hb2.1 hb2.2 (show 0 ≤ 100 - zcg δ law (μ 106 5) i G 0 0 by omega) (show 100 - zcg δ law (μ 106 5) i G 0 0 ≤ 100 by omega)
        rw [← Int.pow_succ] at h3
        have h4 := Nat.mul_le_mul m5 (show G + 1 ≤ 13 by omega)
        rw [Nat.mul_succ] at h4
        have h5 := z130 (n := (m * G + i).succ) (by omega)
        omega
      refine k_timesSmall (by omega) (by omega) (n2.keep (t1 128 (by decide) (by decide)) (t1 129 (by decide) (by decide))) (by omega) (by omega) lim (fun ν3 q1 q2 => ?_)
      rw [zw_of (by omega) (by omega)]
      refine ih (i + 1) (by omega) ν3 (fun b b0 b1 b2 b3 => ?_) ?_
      · rw [q1 b b2 b3, t1 b b0 b1]; exact n1 b b0 b1 b2 b3
      · unfold zpr
        rw [← Int.mul_assoc]
        exact q2
  exact c_Reckoner_stepTogether (loop m 0 (by omega) μ (fun _ _ _ _ _ => rfl) (by simpa [zpr] using hv))
end

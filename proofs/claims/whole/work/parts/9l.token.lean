/-! law: the TEXT in words, figures and signs; the class's reader of them -/
def zsr (T : Int → Int) (L p : Nat) : Int := if p < L then (if 97 ≤ T p ∧ T p ≤ 122 then 1 else if 48 ≤ T p ∧ T p ≤ 57 then 2 else 3) else 0
def zsf (T : Int → Int) : Nat → Nat → Nat
  | 0, p => p
  | n + 1, p => if T p = 32 then zsf T n (p + 1) else p
def zbl (T : Int → Int) (L p : Nat) : Nat := zsf T (L - p) p
def zef (T : Int → Int) (L : Nat) (s : Int) : Nat → Nat → Nat
  | 0, p => p
  | n + 1, p => if zsr T L p = s then zef T L s n (p + 1) else p
def zen (T : Int → Int) (L q : Nat) : Nat := if zsr T L q = 0 then q else if zsr T L q = 3 then q + 1 else zef T L (zsr T L q) (L - (q + 1)) (q + 1)
def znx (T : Int → Int) (L q : Nat) : Nat := zbl T L (zen T L q)
def zsg (T : Int → Int) (L q : Nat) (c : Int) : Prop := zsr T L q = 3 ∧ T q = c
def zwf (f : Nat → Int) : Nat → Int
  | 0 => 0
  | k + 1 => if k < 10 then zwf f k * 32 + f k - 96 else -1
def zwo (T : Int → Int) (L q : Nat) : Int := zwf (fun i => T (q + i)) (zen T L q - q)
def ziw (T : Int → Int) (L q : Nat) (c : Int) : Prop := zsr T L q = 1 ∧ zwo T L q = c
def zwcs : List Int := [239, 277892, 294, 498, 1476, 14836, 632645, 20587916, 20588115, 245189, 8554052, 7056046227, 247511141, 370116, 40437028, 20293004, 1682596, 1457605]
def znf (T : Int → Int) (q : Nat) : Nat → Int
  | 0 => 0
  | k + 1 => if 1000000 < znf T q k then znf T q k else znf T q k * 10 + T ((q + k : Nat) : Int) - 48
def znw (T : Int → Int) (L q : Nat) : Int := znf T q (zen T L q - q)
section
variable {T : Int → Int} {L : Nat}
theorem zsr_rng (p : Nat) : (zsr T L p = 0 ↔ ¬ p < L) ∧ (zsr T L p = 0 ∨ zsr T L p = 1 ∨ zsr T L p = 2 ∨ zsr T L p = 3) := by
  unfold zsr
  by_cases h : p < L
  · rw [if_pos h]
    split
    · omega
    · split <;> omega
  · rw [if_neg h]; omega
theorem zsf_bd : ∀ n p : Nat, p ≤ zsf T n p ∧ zsf T n p ≤ p + n
  | 0, p => by unfold zsf; omega
  | n + 1, p => by
    have := zsf_bd n (p + 1)
    unfold zsf
    split <;> omega
theorem zbl_bd {p : Nat} (h : p ≤ L) : p ≤ zbl T L p ∧ zbl T L p ≤ L := by
  have := zsf_bd (T := T) (L - p) p
  unfold zbl
  omega
theorem zef_bd {s : Int} : ∀ n p : Nat, p ≤ zef T L s n p ∧ zef T L s n p ≤ p + n
  | 0, p => by unfold zef; omega
  | n + 1, p => by
    have := zef_bd (s := s) n (p + 1)
    unfold zef
    split <;> omega
theorem zef_in {s : Int} : ∀ n p i : Nat, p ≤ i → i < zef T L s n p → zsr T L i = s
  | 0, p, i, h1, h2 => by unfold zef at h2; omega
  | n + 1, p, i, h1, h2 => by
    unfold zef at h2
    split at h2
    · rename_i e
      by_cases c : i = p
      · rw [c]; exact e
      · exact zef_in n (p + 1) i (by omega) h2
    · omega
theorem zen_bd {q : Nat} (h : q ≤ L) : q ≤ zen T L q ∧ zen T L q ≤ L ∧ (zsr T L q ≠ 0 → q < zen T L q) := by
  have r := zsr_rng (T := T) (L := L) q
  have e := zef_bd (T := T) (L := L) (s := zsr T L q) (L - (q + 1)) (q + 1)
  unfold zen
  split
  · omega
  · split <;> omega
theorem zen_in {q i : Nat} (h : zsr T L q = 1 ∨ zsr T L q = 2) (h1 : q ≤ i) (h2 : i < zen T L q) : zsr T L i = zsr T L q := by
  unfold zen at h2
  rw [if_neg (by omega), if_neg (by omega)] at h2
  by_cases c : i = q
  · rw [c]
  · exact zef_in _ _ _ (by omega) h2
theorem znx_bd {q : Nat} (h : q ≤ L) : znx T L q ≤ L ∧ q ≤ znx T L q ∧ (zsr T L q ≠ 0 → q < znx T L q) := by
  have e := zen_bd (T := T) h
  have s := zbl_bd (T := T) (p := zen T L q) e.2.1
  unfold znx
  omega
theorem zsr_1 {p : Nat} (h : zsr T L p = 1) : 97 ≤ T p ∧ T p ≤ 122 := by
  unfold zsr at h
  split at h
  · split at h
    · assumption
    · split at h <;> omega
  · omega
theorem zsr_2 {p : Nat} (h : zsr T L p = 2) : 48 ≤ T p ∧ T p ≤ 57 := by
  unfold zsr at h
  split at h
  · split at h
    · omega
    · split at h
      · assumption
      · omega
  · omega
theorem zwf_nn {f : Nat → Int} : ∀ n : Nat, n ≤ 10 → (∀ i, i < n → 97 ≤ f i ∧ f i ≤ 122) → 0 ≤ zwf f n ∧ (0 < n → 1 ≤ zwf f n)
  | 0, _, _ => by unfold zwf; omega
  | n + 1, h, hf => by
    have ih := zwf_nn n (by omega) (fun i hi => hf i (by omega))
    have := hf n (by omega)
    unfold zwf
    rw [if_pos (by omega)]
    omega
theorem zwf_inj {f g : Nat → Int} : ∀ m n : Nat, m ≤ 10 → (∀ i, i < n → 97 ≤ f i ∧ f i ≤ 122) → (∀ i, i < m → 97 ≤ g i ∧ g i ≤ 122) → zwf f n = zwf g m → n = m ∧ ∀ i, i < n → f i = g i
  | 0, n, _, hf, hg, e => by
    by_cases c : n = 0
    · exact ⟨c, fun i hi => by omega⟩
    · by_cases c2 : n ≤ 10
      · have := zwf_nn n c2 hf
        have e0 : zwf g 0 = 0 := rfl
        omega
      · obtain ⟨k, rfl⟩ : ∃ k, n = k + 1 := ⟨n - 1, by omega⟩
        have e0 : zwf g 0 = 0 := rfl
        unfold zwf at e
        rw [if_neg (by omega)] at e
        omega
  | m + 1, n, hm, hf, hg, e => by
    have gn := zwf_nn (m + 1) hm hg
    have gm := zwf_nn m (by omega) (fun i hi => hg i (by omega))
    have gl := hg m (by omega)
    have es : zwf g (m + 1) = zwf g m * 32 + g m - 96 := by
      show (if m < 10 then _ else _) = _
      rw [if_pos (by omega)]
    by_cases c : n = 0
    · rw [c] at e
      have e0 : zwf f 0 = 0 := rfl
      omega
    · obtain ⟨k, rfl⟩ : ∃ k, n = k + 1 := ⟨n - 1, by omega⟩
      by_cases c2 : k < 10
      · have fs : zwf f (k + 1) = zwf f k * 32 + f k - 96 := by
          show (if k < 10 then _ else _) = _
          rw [if_pos c2]
        have fl := hf k (by omega)
        have fk := zwf_nn k (by omega) (fun i hi => hf i (by omega))
        have ih := zwf_inj (f := f) (g := g) m k (by omega) (fun i hi => hf i (by omega)) (fun i hi => hg i (by omega)) (by omega)
        refine ⟨by omega, fun i hi => ?_⟩
        by_cases c3 : i = k
        · rw [c3]
          have : k = m := ih.1
          rw [this] at fs fl ⊢
          rw [this] at e
          omega
        · exact ih.2 i (by omega)
      · have fs : zwf f (k + 1) = -1 := by
          show (if k < 10 then _ else _) = _
          rw [if_neg c2]
        omega
theorem zwf_congr {f g : Nat → Int} : ∀ n : Nat, (∀ i, i < n → f i = g i) → zwf f n = zwf g n
  | 0, _ => rfl
  | n + 1, h => by
    show (if n < 10 then zwf f n * 32 + f n - 96 else -1) = (if n < 10 then zwf g n * 32 + g n - 96 else -1)
    rw [zwf_congr n (fun i hi => h i (by omega)), h n (by omega)]
/-- the letters of the eighteen words -/
def zlt (j i : Nat) : Int := zand (((zbyt.getD j []).getD i 0).toInt) 255
theorem zlt_ok : ∀ j, j < 18 → zlen.getD j 0 ≤ 10 ∧ zwf (zlt j) (zlen.getD j 0) = zwcs.getD j 0 ∧ ∀ i, i < zlen.getD j 0 → 97 ≤ zlt j i ∧ zlt j i ≤ 122 := by decide +kernel
theorem ziw_iff {q j : Nat} (hj : j < 18) : ziw T L q (zwcs.getD j 0) ↔ (zsr T L q = 1 ∧ zen T L q - q = zlen.getD j 0 ∧ ∀ i, i < zlen.getD j 0 → T (q + i) = zlt j i) := by
  have ok := zlt_ok j hj
  unfold ziw zwo
  constructor
  · rintro ⟨h1, h2⟩
    have := zwf_inj (f := fun i => T (q + i)) (g := zlt j) (zlen.getD j 0) (zen T L q - q) ok.1 (fun i hi => by
      have := zsr_1 ((zen_in (i := q + i) (Or.inl h1) (by omega) (by omega)).trans h1)
      rw [Int.natCast_add] at this
      exact this) ok.2.2 (by rw [h2, ok.2.1])
    exact ⟨h1, this.1, fun i hi => this.2 i (by omega)⟩
  · rintro ⟨h1, h2, h3⟩
    refine ⟨h1, ?_⟩
    rw [h2, ← ok.2.1]
    exact zwf_congr _ (fun i hi => h3 i hi)
end
/-- where the class's reader stands -/
def zTc (μ : zM) (T : Int → Int) (L q : Nat) : Prop := μ 90 1 = L ∧ (∀ i : Int, 0 ≤ i → i < L → μ 91 i = T i) ∧ μ 90 2 = q ∧ μ 90 3 = (zen T L q : Nat) ∧ μ 90 4 = zsr T L q ∧ q ≤ L ∧ L ≤ 400
theorem zTc.keep {μ ν : zM} {T : Int → Int} {L q : Nat} (h : zTc μ T L q) (h1 : ν 91 = μ 91) (h2 : ∀ j : Int, 1 ≤ j → j ≤ 4 → ν 90 j = μ 90 j) : zTc ν T L q := by
  obtain ⟨a, b, c, e, f, g⟩ := h
  exact ⟨by rw [h2 1 (by decide) (by decide)]; exact a, fun i i0 i1 => by rw [h1]; exact b i i0 i1, by rw [h2 2 (by decide) (by decide)]; exact c, by rw [h2 3 (by decide) (by decide)]; exact e, by rw [h2 4 (by decide) (by decide)]; exact f, g⟩
section
variable {X : zX} {l : Launch} {d : Nat} {μ : zM} {T : Int → Int} {L : Nat}
theorem k_sortAt {p : Nat} {Q : Int → zM → Prop} (h1 : μ 90 1 = L) (ht : ∀ i : Int, 0 ≤ i → i < L → μ 91 i = T i) (hL : L ≤ 400) (hQ : Q (zsr T L p) μ) : zCi X true l d 0 0 y_Reader_sortAt [(5, 0, 90), (0, 0, (p : Int))] μ Q := by
  refine c_Reader_sortAt (a0 := 90) ⟨fun c => absurd c (by omega), fun _ => ⟨fun c => ?_, fun c => ⟨fun _ => ⟨by omega, ?_⟩, fun q => absurd (by omega) q⟩⟩⟩
  · unfold zsr at hQ
    rw [if_neg (by omega)] at hQ
    exact hQ
  · have e := ht p (by omega) (by omega)
    simp only [Int.reduceAdd]
    rw [e]
    unfold zsr at hQ
    rw [if_pos (by omega)] at hQ
    refine ⟨fun c1 => ⟨fun c2 => ?_, fun c2 => ⟨fun c3 => ?_, fun c3 => ?_⟩⟩, fun c1 => ⟨fun c2 => ⟨fun c3 => ?_, fun c3 => ⟨fun c4 => ?_, fun c4 => ?_⟩⟩, fun c2 => ?_⟩⟩
    · rw [if_neg (by omega), if_neg (by omega)] at hQ; exact hQ
    · rw [if_neg (by omega), if_neg (by omega)] at hQ; exact hQ
    · rw [if_neg (by omega), if_pos (by omega)] at hQ; exact hQ
    · rw [if_neg (by omega), if_neg (by omega)] at hQ; exact hQ
    · rw [if_neg (by omega), if_neg (by omega)] at hQ; exact hQ
    · rw [if_neg (by omega), if_pos (by omega)] at hQ; exact hQ
    · rw [if_pos (by omega)] at hQ; exact hQ
theorem k_advance0 {p : Nat} {Q : zM → Prop} (hd : 1 ≤ d) (h1 : μ 90 1 = L) (ht : ∀ i : Int, 0 ≤ i → i < L → μ 91 i = T i) (hL : L ≤ 400) (h3 : μ 90 3 = (p : Int)) (hp : p ≤ L) (hQ : ∀ ν, (∀ b : Int, b ≠ 90 → ν b = μ b) → (∀ j : Int, j ≠ 2 → j ≠ 3 → j ≠ 4 → ν 90 j = μ 90 j) → zTc ν T L (zbl T L p) → Q ν) : zCv X true l d 0 0 y_Reader_advance [(5, 0, 90)] μ Q := by
  refine c_Reader_advance (a0 := 90) ?_
  rw [h3]
  have sb := zbl_bd (T := T) hp
  generalize hq : zbl T L p = q at *
  have rq := zsr_rng (T := T) (L := L) q
  have eb := zen_bd (T := T) sb.2
  -- the end of the word
  have l82 : ∀ k i : Nat, k + i = L → zsr T L q ≠ 3 → zef T L (zsr T L q) k i = zen T L q ∨ (zsr T L q = 0 ∧ i = L ∧ zen T L q = L) → ∀ ν : zM, (∀ b : Int, b ≠ 90 → ν b = μ b) → (∀ j : Int, j ≠ 2 → j ≠ 3 → j ≠ 4 → ν 90 j = μ 90 j) → ν 90 2 = q → ν 90 4 = zsr T L q → ν 90 3 = (i : Int) → zE X true l d 0 0 y_Reader_advance 82 [some (5, 0, 90)] [] ν (zrn Q) := by
    intro k
    induction k with
    | zero =>
      intro i hi h33 hz ν n1 n2 n3 n4 n5
      have e1 : ν 90 1 = L := by rw [n2 1 (by decide) (by decide) (by decide)]; exact h1
      refine s_Reader_advance_82 (a0 := 90) (d1 := 0) (by omega) ⟨fun c => absurd (n4.symm.trans c) h33, fun _ => ⟨fun _ => ?_, fun c => absurd (by omega) c⟩⟩
      have ei : i = zen T L q := by
        rcases hz with h | h
        · unfold zef at h; exact h
        · omega
      exact hQ ν n1 n2 ⟨e1, fun j j0 j1 => by rw [n1 91 (by decide)]; exact ht j j0 j1, n3, by rw [n5, ei], n4, sb.2, hL⟩
    | succ k ih =>
      intro i hi h33 hz ν n1 n2 n3 n4 n5
      have e1 : ν 90 1 = L := by rw [n2 1 (by decide) (by decide) (by decide)]; exact h1
      have hz' : zef T L (zsr T L q) (k + 1) i = zen T L q := by
        rcases hz with h | h
        · exact h
        · omega
      refine s_Reader_advance_82 (a0 := 90) (d1 := 0) (by omega) ⟨fun c => absurd (n4.symm.trans c) h33, fun _ => ⟨fun c => absurd c (by omega), fun _ => ?_⟩⟩
      rw [n5]
      refine k_sortAt (T := T) (L := L) e1 (fun j j0 j1 => by rw [n1 91 (by decide)]; exact ht j j0 j1) hL ⟨fun c => ?_, fun c => ?_⟩
      · rw [n4] at c
        unfold zef at hz'
        rw [if_neg c] at hz'
        exact hQ ν n1 n2 ⟨e1, fun j j0 j1 => by rw [n1 91 (by decide)]; exact ht j j0 j1, n3, by rw [n5, hz'], n4, sb.2, hL⟩
      · rw [n4] at c
        unfold zef at hz'
        rw [if_pos c] at hz'
        rw [n5, zw_of (by omega) (by omega)]
        exact ih (i + 1) (by omega) h33 (Or.inl hz') _ (fun b hb => (zup_ne hb).trans (n1 b hb)) (fun j j0 j1 j2 => (zup_miss (by omega)).trans (n2 j j0 j1 j2)) ((zup_miss (by omega)).trans n3) ((zup_miss (by omega)).trans n4) (by rw [zup_hit]; omega)
  -- the blanks
  have l8 : ∀ k i : Nat, k + i = L → zsf T k i = q → ∀ ν : zM, (∀ b : Int, b ≠ 90 → ν b = μ b) → (∀ j : Int, j ≠ 2 → j ≠ 3 → j ≠ 4 → ν 90 j = μ 90 j) → ν 90 2 = (i : Int) → zE X true l d 0 0 y_Reader_advance 8 [some (5, 0, 90)] [] ν (zrn Q) := by
    intro k
    have there : ∀ ν : zM, (∀ b : Int, b ≠ 90 → ν b = μ b) → (∀ j : Int, j ≠ 2 → j ≠ 3 → j ≠ 4 → ν 90 j = μ 90 j) → ν 90 2 = (q : Int) → zE X true l d 0 0 y_Reader_advance 46 [some (5, 0, 90)] [] ν (zrn Q) := fun ν n1 n2 n3 => by
      have e1 : ν 90 1 = L := by rw [n2 1 (by decide) (by decide) (by decide)]; exact h1
      refine s_Reader_advance_46 (a0 := 90) (d1 := 0) (by omega) ?_
      rw [n3]
      refine k_sortAt (T := T) (L := L) e1 (fun j j0 j1 => by rw [n1 91 (by decide)]; exact ht j j0 j1) hL ?_
      have m4 : zup ν 90 4 (zsr T L q) 90 4 = zsr T L q := zup_hit
      have m2 : zup ν 90 4 (zsr T L q) 90 2 = q := (zup_miss (by omega)).trans n3
      simp only [m4, m2]
      by_cases c0 : zsr T L q = 0
      · have hz : zen T L q = q := by unfold zen; rw [if_pos c0]
        have : q = L := by omega
        rw [if_neg (fun w => w c0)]
        refine l82 0 q (by omega) (by omega) (Or.inr ⟨c0, this, by omega⟩) _ (fun b hb => by rw [zup_ne hb, zup_ne hb]; exact n1 b hb) (fun j j0 j1 j2 => by rw [zup_miss (by omega), zup_miss (by omega)]; exact n2 j j0 j1 j2) (by rw [zup_miss (by omega)]; exact m2) (by rw [zup_miss (by omega)]; exact m4) zup_hit
      · rw [if_pos c0, zw_of (by omega) (by omega)]
        by_cases c3 : zsr T L q = 3
        · have hz : zen T L q = q + 1 := by unfold zen; rw [if_neg c0, if_pos c3]
          have w4 : zup (zup ν 90 4 (zsr T L q)) 90 3 ((q : Int) + 1) 90 4 = zsr T L q := (zup_miss (by omega)).trans m4
          refine s_Reader_advance_82 (a0 := 90) (d1 := 0) (by omega) ⟨fun _ => ?_, fun c => absurd (w4.trans c3) c⟩
          refine hQ _ (fun b hb => by rw [zup_ne hb, zup_ne hb]; exact n1 b hb) (fun j j0 j1 j2 => by rw [zup_miss (by omega), zup_miss (by omega)]; exact n2 j j0 j1 j2) ⟨by rw [zup_miss (by omega), zup_miss (by omega)]; exact e1, fun j j0 j1 => by rw [zup_ne (by decide), zup_ne (by decide), n1 91 (by decide)]; exact ht j j0 j1, by rw [zup_miss (by omega)]; exact m2, by rw [zup_hit, hz]; omega, w4, sb.2, hL⟩
        · have hz : zef T L (zsr T L q) (L - (q + 1)) (q + 1) = zen T L q := by unfold zen; rw [if_neg c0, if_neg c3]
          exact l82 (L - (q + 1)) (q + 1) (by omega) c3 (Or.inl hz) _ (fun b hb => by rw [zup_ne hb, zup_ne hb]; exact n1 b hb) (fun j j0 j1 j2 => by rw [zup_miss (by omega), zup_miss (by omega)]; exact n2 j j0 j1 j2) (by rw [zup_miss (by omega)]; exact m2) (by rw [zup_miss (by omega)]; exact m4) (by rw [zup_hit]; omega)
    induction k with
    | zero =>
      intro i hi hz ν n1 n2 n3
      have e1 : ν 90 1 = L := by rw [n2 1 (by decide) (by decide) (by decide)]; exact h1
      have e : i = q := by unfold zsf at hz; exact hz
      rw [e] at n3
      exact s_Reader_advance_8 (a0 := 90) ⟨fun _ => there ν n1 n2 n3, fun c => absurd (by omega) c⟩
    | succ k ih =>
      intro i hi hz ν n1 n2 n3
      have e1 : ν 90 1 = L := by rw [n2 1 (by decide) (by decide) (by decide)]; exact h1
      have e9 : ν 91 i = T i := by rw [n1 91 (by decide)]; exact ht i (by omega) (by omega)
      refine s_Reader_advance_8 (a0 := 90) ⟨fun c => absurd c (by omega), fun _ => ⟨by omega, fun c => ?_, fun c => ?_⟩⟩
      · simp only [Int.reduceAdd] at c
        rw [n3, e9] at c
        unfold zsf at hz
        rw [if_neg c] at hz
        rw [hz] at n3
        exact there ν n1 n2 n3
      · simp only [Int.reduceAdd] at c
        rw [n3, e9] at c
        unfold zsf at hz
        rw [if_pos c] at hz
        rw [n3, zw_of (by omega) (by omega)]
        exact ih (i + 1) (by omega) hz _ (fun b hb => (zup_ne hb).trans (n1 b hb)) (fun j j0 j1 j2 => (zup_miss (by omega)).trans (n2 j j0 j1 j2)) (by rw [zup_hit]; omega)
  exact l8 (L - p) p (by omega) hq _ (fun b hb => zup_ne hb) (fun j j0 j1 j2 => zup_miss (by omega)) zup_hit
theorem k_advance {q : Nat} {Q : zM → Prop} (hd : 1 ≤ d) (h : zTc μ T L q) (hQ : ∀ ν, (∀ b : Int, b ≠ 90 → ν b = μ b) → (∀ j : Int, j ≠ 2 → j ≠ 3 → j ≠ 4 → ν 90 j = μ 90 j) → zTc ν T L (znx T L q) → Q ν) : zCv X true l d 0 0 y_Reader_advance [(5, 0, 90)] μ Q :=
  k_advance0 hd h.1 h.2.1 h.2.2.2.2.2.2 h.2.2.2.1 (zen_bd h.2.2.2.2.2.1).2.1 hQ
theorem k_isSign {q : Nat} {c : Int} {Q : Int → zM → Prop} (h : zTc μ T L q) (h1 : zsg T L q c → Q 1 μ) (h0 : ¬ zsg T L q c → Q 0 μ) : zCi X true l d 0 0 y_Reader_isSign [(5, 0, 90), (0, 0, c)] μ Q := by
  obtain ⟨a1, a2, a3, a4, a5, a6, a7⟩ := h
  refine c_Reader_isSign (a0 := 90) ⟨fun c1 => h0 (fun q => c1 (a5.trans q.1)), fun c1 => ?_⟩
  have c1 : zsr T L q = 3 := a5.symm.trans c1
  have ql : q < L := by
    refine Decidable.byContradiction fun w => ?_
    have := (zsr_rng (T := T) (L := L) q).1.mpr w
    omega
  have e := a2 q (by omega) (by omega)
  refine ⟨fun w => absurd w (by omega), fun _ => ⟨fun w => absurd w (by omega), fun _ => ⟨by omega, ?_⟩⟩⟩
  simp only [Int.reduceAdd]
  rw [a3, e]
  exact ⟨fun w => h0 (fun z => w z.2), fun w => h1 ⟨c1, w⟩⟩
end

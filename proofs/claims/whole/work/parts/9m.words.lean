/-! law: the class's words and numbers -/
theorem znar : ∀ n : Nat, n < 26 → narrow .char (.int (Int32.ofInt (97 + (n : Int)))) = .int (Int32.ofInt (97 + (n : Int))) := by decide +kernel
theorem znar' {v : Int} (h0 : 97 ≤ v) (h1 : v ≤ 122) : narrow .char (.int (Int32.ofInt v)) = .int (Int32.ofInt v) := by
  have := znar (v - 97).toNat (by omega)
  rw [show (97 : Int) + ((v - 97).toNat : Nat) = v by omega] at this
  exact this
section
variable {X : zX} {l : Launch} {d : Nat} {μ : zM} {T : Int → Int} {L : Nat}
theorem k_Str_length {j : Nat} {Q : Int → zM → Prop} (hd : 1 ≤ d) (hj : j < 18) (hQ : Q (zlen.getD j 0 : Nat) μ) : zCi X true l d 0 0 y_Str_length [(33, j, (10 + (j : Int)))] μ Q := by
  refine c_Str_length (d1 := 0) hj (by omega) (c_Str_coder hj ⟨by decide +kernel, ?_⟩)
  have e : ∀ j, j < 18 → zshr ((zlen.getD j 0 : Nat) : Int) (if (1 : Int) = 0 then (1 : Int) else 0) = (zlen.getD j 0 : Nat) := by decide +kernel
  rw [e j hj]
  exact hQ
theorem k_Str_charAt {j i : Nat} {Q : Int → zM → Prop} (hd : 4 ≤ d) (hj : j < 18) (hi : i < zlen.getD j 0) (hQ : Q (zlt j i) μ) : zCi X true l d 0 0 y_Str_charAt [(33, j, (10 + (j : Int))), (0, 0, (i : Int))] μ Q := by
  have ok := (zlt_ok j hj).2.2 i hi
  refine c_Str_charAt (d1 := 3) hj (by omega) (c_Str_isLatin1 hj ⟨fun c => absurd c (by decide), fun _ => ⟨fun c => absurd rfl c, fun _ => ⟨fun c => absurd c (by decide), fun _ => ?_⟩⟩⟩)
  refine c_Lat_charAt (d1 := 2) hj (by omega) (c_Str_checkIndex (d1 := 1) (by omega) (fun u => c_Pre_checkIndex ⟨fun c => absurd c (by omega), fun _ => ⟨fun _ => ⟨by omega, ?_⟩, fun c => absurd (by omega) c⟩⟩))
  have e : zand (((zbyt.getD j []).getD ((i : Int)).toNat 0).toInt) 255 = zlt j i := by unfold zlt; rw [Int.toNat_natCast]
  rw [e]
  exact ⟨by omega, znar' ok.1 ok.2, znar' ok.1 ok.2, hQ⟩
theorem k_isWord {q j : Nat} {Q : Int → zM → Prop} (hd : 5 ≤ d) (hj : j < 18) (h : zTc μ T L q) (h1 : ziw T L q (zwcs.getD j 0) → Q 1 μ) (h0 : ¬ ziw T L q (zwcs.getD j 0) → Q 0 μ) : zCi X true l d 0 0 y_Reader_isWord [(5, 0, 90), (33, j, (10 + (j : Int)))] μ Q := by
  obtain ⟨a1, a2, a3, a4, a5, a6, a7⟩ := h
  have iff := ziw_iff (T := T) (L := L) (q := q) hj
  have eb := zen_bd (T := T) a6
  refine c_Reader_isWord (a0 := 90) (d1 := 4) hj (by omega) ⟨fun c => h0 (fun w => c (a5.trans (iff.mp w).1)), fun c => ?_⟩
  have s1 : zsr T L q = 1 := a5.symm.trans c
  refine k_Str_length (by omega) hj ⟨fun c2 => ?_, fun c2 => h0 (fun w => c2 ?_)⟩
  · rw [a3, a4, zw_of (by omega) (by omega)] at c2
    have len : zen T L q - q = zlen.getD j 0 := by omega
    have loop : ∀ k i : Nat, i + k = zlen.getD j 0 → (∀ i' : Nat, i' < i → T (q + i') = zlt j i') → zE X true l d 0 0 y_Reader_isWord 28 [some (5, 0, 90), some (33, j, (10 + (j : Int))), some (0, 0, (i : Int))] [] μ (zri Q) := by
      intro k
      induction k with
      | zero =>
        intro i hi hs
        refine s_Reader_isWord_28 (a0 := 90) (d1 := 4) hj (by omega) (k_Str_length (by omega) hj ⟨fun _ => ?_, fun w => absurd (by omega) w⟩)
        exact h1 (iff.mpr ⟨s1, len, fun i' hi' => hs i' (by omega)⟩)
      | succ k ih =>
        intro i hi hs
        have ti := a2 ((q : Int) + i) (by omega) (by omega)
        refine s_Reader_isWord_28 (a0 := 90) (d1 := 4) hj (by omega) (k_Str_length (by omega) hj ⟨fun w => absurd w (by omega), fun _ => ⟨fun w => ?_, fun w => ⟨?_, k_Str_charAt (by omega) hj (by omega) ⟨fun w => ?_, fun w => h0 (fun z => w ?_)⟩⟩⟩⟩)
        · rw [a3, zw_of (by omega) (by omega)] at w
          omega
        · rw [a3, zw_of (by omega) (by omega)]
          omega
        · simp only [Int.reduceAdd] at w
          rw [a3, zw_of (by omega) (by omega), ti] at w
          rw [zw_of (by omega) (by omega)]
          refine ih (i + 1) (by omega) (fun i' hi' => ?_)
          by_cases e : i' = i
          · rw [e]; exact w
          · exact hs i' (by omega)
        · simp only [Int.reduceAdd]
          rw [a3, zw_of (by omega) (by omega), ti]
          exact (iff.mp z).2.2 i (by omega)
    exact loop (zlen.getD j 0) 0 (by omega) (fun i' hi' => by omega)
  · rw [a3, a4, zw_of (by omega) (by omega)]
    have := (iff.mp w).2.1
    omega
/-- the number that stands here, or -1 -/
def znh (T : Int → Int) (L q : Nat) : Int := if zsr T L q = 2 then (if 1000 < znw T L q then -1 else znw T L q) else -1
theorem znf_nn {q : Nat} : ∀ k : Nat, (∀ i, i < k → 48 ≤ T ((q + i : Nat) : Int) ∧ T ((q + i : Nat) : Int) ≤ 57) → 0 ≤ znf T q k ∧ znf T q k ≤ 10000009
  | 0, _ => by unfold znf; omega
  | k + 1, h => by
    have ih := znf_nn k (fun i hi => h i (by omega))
    have := h k (by omega)
    unfold znf
    split <;> omega
theorem k_numberHere {q : Nat} {Q : Int → zM → Prop} (hd : 1 ≤ d) (h : zTc μ T L q) (hQ : Q (znh T L q) μ) : zCi X true l d 0 0 y_Reader_numberHere [(5, 0, 90)] μ Q := by
  obtain ⟨a1, a2, a3, a4, a5, a6, a7⟩ := h
  have eb := zen_bd (T := T) a6
  unfold znh at hQ
  refine c_Reader_numberHere (a0 := 90) ⟨fun c => ?_, fun c => ?_⟩
  · have s2 : zsr T L q = 2 := a5.symm.trans c
    rw [if_pos s2] at hQ
    rw [a3]
    have dg : ∀ i, i < zen T L q - q → 48 ≤ T ((q + i : Nat) : Int) ∧ T ((q + i : Nat) : Int) ≤ 57 := fun i hi => zsr_2 ((zen_in (i := q + i) (Or.inr s2) (by omega) (by omega)).trans s2)
    have loop : ∀ k i : Nat, i + k = zen T L q - q → zE X true l d 0 0 y_Reader_numberHere 17 [some (5, 0, 90), some (0, 0, (if 1000 < znf T q i then 1001 else znf T q i)), some (0, 0, ((q + i : Nat) : Int))] [] μ (zri Q) := by
      intro k
      induction k with
      | zero =>
        intro i hi
        refine s_Reader_numberHere_17 (a0 := 90) hd ⟨fun _ => ?_, fun w => absurd (by omega) w⟩
        have e : znw T L q = znf T q i := by unfold znw; rw [show zen T L q - q = i by omega]
        rw [e] at hQ
        by_cases w : 1000 < znf T q i
        · rw [if_pos w] at hQ ⊢
          rw [if_pos (by decide)]
          exact hQ
        · rw [if_neg w] at hQ ⊢
          rw [if_neg w]
          exact hQ
      | succ k ih =>
        intro i hi
        have ti := a2 ((q + i : Nat) : Int) (by omega) (by omega)
        have di := dg i (by omega)
        have nn := znf_nn i (fun i' hi' => dg i' (by omega))
        have st : znf T q (i + 1) = if 1000000 < znf T q i then znf T q i else znf T q i * 10 + T ((q + i : Nat) : Int) - 48 := rfl
        refine s_Reader_numberHere_17 (a0 := 90) hd ⟨fun w => absurd w (by omega), fun _ => ⟨fun w => absurd w (by omega), fun _ => ⟨by omega, ?_⟩⟩⟩
        simp only [Int.reduceAdd]
        have nx := ih (i + 1) (by omega)
        rw [ti]
        have e : (if (1001 : Int) < zw (zw (zw (10 * (if 1000 < znf T q i then 1001 else znf T q i)) + T ((q + i : Nat) : Int)) - 48) then (1001 : Int) else zw (zw (zw (10 * (if 1000 < znf T q i then 1001 else znf T q i)) + T ((q + i : Nat) : Int)) - 48)) = if 1000 < znf T q (i + 1) then 1001 else znf T q (i + 1) := by
          rw [st]
          by_cases w : 1000 < znf T q i
          · rw [if_pos w, zw_of (x := 10 * 1001) (by decide) (by decide), zw_of (x := 10 * 1001 + _) (by omega) (by omega), zw_of (by omega) (by omega), if_pos (by omega)]
            by_cases w2 : 1000000 < znf T q i
            · rw [if_pos w2, if_pos w]
            · rw [if_neg w2, if_pos (by omega)]
          · rw [if_neg w, zw_of (x := 10 * znf T q i) (by omega) (by omega), zw_of (x := 10 * znf T q i + _) (by omega) (by omega), zw_of (x := 10 * znf T q i + _ - 48) (by omega) (by omega), if_neg (show ¬ 1000000 < znf T q i by omega)]
            by_cases w2 : 1001 < 10 * znf T q i + T ((q + i : Nat) : Int) - 48
            · rw [if_pos w2, if_pos (by omega)]
            · rw [if_neg w2]
              by_cases w3 : 1000 < znf T q i * 10 + T ((q + i : Nat) : Int) - 48
              · rw [if_pos w3]; omega
              · rw [if_neg w3]; omega
        rw [e, zw_of (by omega) (by omega)]
        exact nx
    have := loop (zen T L q - q) 0 (by omega)
    exact this
  · rw [if_neg (fun w => c (a5.trans w))] at hQ
    exact hQ
/-- the word of a fact that stands here, or -1 -/
def zwi (T : Int → Int) (L q : Nat) : Nat → Nat → Int
  | 0, _ => -1
  | n + 1, j => if zsr T L q = 1 ∧ zwo T L q = zwcs.getD (6 + j) 0 then (j : Int) else zwi T L q n (j + 1)
def zwh (T : Int → Int) (L q : Nat) : Int := zwi T L q 12 0
theorem zwi_yes {q n j : Nat} (h : ziw T L q (zwcs.getD (6 + j) 0)) : zwi T L q (n + 1) j = j := by
  show (if zsr T L q = 1 ∧ zwo T L q = zwcs.getD (6 + j) 0 then (j : Int) else _) = _
  exact if_pos h
theorem zwi_no {q n j : Nat} (h : ¬ ziw T L q (zwcs.getD (6 + j) 0)) : zwi T L q (n + 1) j = zwi T L q n (j + 1) := by
  show (if zsr T L q = 1 ∧ zwo T L q = zwcs.getD (6 + j) 0 then (j : Int) else _) = _
  exact if_neg h
theorem k_wordHere {q : Nat} {Q : Int → zM → Prop} (hd : 6 ≤ d) (h : zTc μ T L q) (hQ : Q (zwh T L q) μ) : zCi X true l d 0 0 y_Reader_wordHere [(5, 0, 90)] μ Q := by
  have step : ∀ (j n : Nat) (K : Int → zM → Prop), j + n = 11 → zwh T L q = zwi T L q (n + 1) j → (ziw T L q (zwcs.getD (6 + j) 0) → zwh T L q = j → K 1 μ) → (zwh T L q = zwi T L q n (j + 1) → K 0 μ) → zCi X true l 5 0 0 y_Reader_isWord [(5, 0, 90), (33, 6 + j, (10 + ((6 + j : Nat) : Int)))] μ K := fun j n K hj e y no =>
    k_isWord (j := 6 + j) (by omega) (by omega) h (fun w => y w (by rw [e, zwi_yes w])) (fun w => no (by rw [e, zwi_no w]))
  refine c_Reader_wordHere (a0 := 90) (d1 := 5) (by omega) ?_
  refine step 0 11 _ rfl rfl (fun w e => ⟨fun c => absurd c (by decide), fun _ => by rw [e] at hQ; exact hQ⟩) (fun e => ⟨fun _ => ?_, fun c => absurd rfl c⟩)
  refine step 1 10 _ rfl e (fun w e => ⟨fun c => absurd c (by decide), fun _ => by rw [e] at hQ; exact hQ⟩) (fun e => ⟨fun _ => ?_, fun c => absurd rfl c⟩)
  refine step 2 9 _ rfl e (fun w e => ⟨fun c => absurd c (by decide), fun _ => by rw [e] at hQ; exact hQ⟩) (fun e => ⟨fun _ => ?_, fun c => absurd rfl c⟩)
  refine step 3 8 _ rfl e (fun w e => ⟨fun c => absurd c (by decide), fun _ => by rw [e] at hQ; exact hQ⟩) (fun e => ⟨fun _ => ?_, fun c => absurd rfl c⟩)
  refine step 4 7 _ rfl e (fun w e => ⟨fun c => absurd c (by decide), fun _ => by rw [e] at hQ; exact hQ⟩) (fun e => ⟨fun _ => ?_, fun c => absurd rfl c⟩)
  refine step 5 6 _ rfl e (fun w e => ⟨fun c => absurd c (by decide), fun _ => by rw [e] at hQ; exact hQ⟩) (fun e => ⟨fun _ => ?_, fun c => absurd rfl c⟩)
  refine step 6 5 _ rfl e (fun w e => ⟨fun c => absurd c (by decide), fun _ => by rw [e] at hQ; exact hQ⟩) (fun e => ⟨fun _ => ?_, fun c => absurd rfl c⟩)
  refine step 7 4 _ rfl e (fun w e => ⟨fun c => absurd c (by decide), fun _ => by rw [e] at hQ; exact hQ⟩) (fun e => ⟨fun _ => ?_, fun c => absurd rfl c⟩)
  refine step 8 3 _ rfl e (fun w e => ⟨fun c => absurd c (by decide), fun _ => by rw [e] at hQ; exact hQ⟩) (fun e => ⟨fun _ => ?_, fun c => absurd rfl c⟩)
  refine step 9 2 _ rfl e (fun w e => ⟨fun c => absurd c (by decide), fun _ => by rw [e] at hQ; exact hQ⟩) (fun e => ⟨fun _ => ?_, fun c => absurd rfl c⟩)
  refine step 10 1 _ rfl e (fun w e => ⟨fun c => absurd c (by decide), fun _ => by rw [e] at hQ; exact hQ⟩) (fun e => ⟨fun _ => ?_, fun c => absurd rfl c⟩)
  refine step 11 0 _ rfl e (fun w e => ?_) (fun e => ?_)
  · rw [if_neg (by decide)]
    rw [e] at hQ
    exact hQ
  · rw [if_pos rfl]
    rw [e] at hQ
    exact hQ
end

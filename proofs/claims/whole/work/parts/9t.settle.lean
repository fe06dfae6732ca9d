/-! law: the reference settles its pile -/
section
variable {X : zX} {l : Launch} {d : Nat} {μ0 : zM} {T : Int → Int} {L q dp lv : Nat} {O A P B : Int → Int}
def zSf (μ ν : zM) : Prop := (∀ b : Int, b ≠ 1320 → b ≠ 1327 → b ≠ 1328 → ν b = μ b) ∧ ∀ j : Int, j ≠ 16 → j ≠ 22 → ν 1320 j = μ 1320 j
theorem zSf.trans {μ ν ρ : zM} (h : zSf μ ν) (k : zSf ν ρ) : zSf μ ρ := ⟨fun b h1 h2 h3 => (k.1 b h1 h2 h3).trans (h.1 b h1 h2 h3), fun j h1 h2 => (k.2 j h1 h2).trans (h.2 j h1 h2)⟩
theorem k_M_settle' {κ : Int} {h : Nat} {Q : zM → Prop} (hd : 1 ≤ d) : ∀ (m : Nat) (μ : zM) (c : Nat), μ 1320 22 = ((h + m : Nat) : Int) → μ 1320 16 = c → c + h + m ≤ 400 → (∀ j : Int, (h : Int) ≤ j → j < ((h + m : Nat) : Int) → κ ≤ zbi (μ 1329 j) ∧ 0 ≤ μ 1330 j ∧ μ 1330 j < 400) → (h = 0 ∨ zbi (μ 1329 ((h : Int) - 1)) < κ) → (∀ ν, zSf μ ν → ν 1327 = (zVp (μ 1329) (μ 1330) m h (μ 1327, μ 1328, c)).1 → ν 1328 = (zVp (μ 1329) (μ 1330) m h (μ 1327, μ 1328, c)).2.1 → ν 1320 16 = ((zVp (μ 1329) (μ 1330) m h (μ 1327, μ 1328, c)).2.2 : Nat) → ν 1320 22 = h → Q ν) → zE X true l d 0 0 y_M_settle 0 [some (13, 0, 1320), some (0, 0, κ)] [] μ (zrn Q) := by
  intro m
  induction m with
  | zero =>
    intro μ c e22 e16 hc hj hb hQ
    have done : Q μ := hQ μ ⟨fun _ _ _ _ => rfl, fun _ _ _ => rfl⟩ rfl rfl e16 e22
    refine s_M_settle_0 (a0 := 1320) (d1 := d - 1) (by omega) ⟨fun _ => done, fun z => ?_⟩
    rw [e22, zw_of (by omega) (by omega)]
    refine ⟨by omega, k_M_binds ⟨fun _ => done, fun z2 => absurd ?_ z2⟩⟩
    rw [e22] at z
    have e1 : ((h + 0 : Nat) : Int) - 1 = (h : Int) - 1 := by omega
    rw [e1]
    exact hb.resolve_left (by omega)
  | succ m ih =>
    intro μ c e22 e16 hc hj hb hQ
    refine s_M_settle_0 (a0 := 1320) (d1 := d - 1) (by omega) ⟨fun z => absurd z (by rw [e22]; omega), fun _ => ?_⟩
    have e1 : zw (μ 1320 22 - 1) = ((h + m : Nat) : Int) := by rw [e22, zw_of (by omega) (by omega)]; omega
    simp only [Int.reduceAdd]
    rw [e1]
    refine ⟨by omega, k_M_binds ?_⟩
    obtain ⟨hj1, hj2, hj3⟩ := hj ((h + m : Nat) : Int) (by omega) (by omega)
    refine ⟨fun z => absurd z (by omega), fun _ => ?_⟩
    rw [e1]
    have r1 : zup μ 1320 22 ((h + m : Nat) : Int) 1320 22 = ((h + m : Nat) : Int) := zup_hit
    have r2 : zup μ 1320 22 ((h + m : Nat) : Int) 1329 = μ 1329 := zup_ne (by decide)
    have r3 : zup μ 1320 22 ((h + m : Nat) : Int) 1330 = μ 1330 := zup_ne (by decide)
    have r4 : zup μ 1320 22 ((h + m : Nat) : Int) 1320 16 = c := by rw [zup_miss (by decide)]; exact e16
    have r5 : zup μ 1320 22 ((h + m : Nat) : Int) 1327 = μ 1327 := zup_ne (by decide)
    have r6 : zup μ 1320 22 ((h + m : Nat) : Int) 1328 = μ 1328 := zup_ne (by decide)
    have rf : zSf μ (zup μ 1320 22 ((h + m : Nat) : Int)) := ⟨fun b h1 _ _ => zup_ne h1, fun j _ h2 => zup_miss (by omega)⟩
    generalize zup μ 1320 22 ((h + m : Nat) : Int) = ρ at r1 r2 r3 r4 r5 r6 rf ⊢
    rw [r1, r2, r3, r4]
    have vt := zVp_top (P := μ 1329) (B := μ 1330) m h (μ 1327, μ 1328, c)
    rw [vt] at hQ
    have jump : (μ 1329 ((h + m : Nat) : Int) = 28 ∨ μ 1329 ((h + m : Nat) : Int) = 29) → zE X true l d 0 0 y_M_settle 0 [some (13, 0, 1320), some (0, 0, κ)] [] (zup ρ 1328 (μ 1330 ((h + m : Nat) : Int)) (c : Int)) (zrn Q) := fun e => by
      have u7 : zup ρ 1328 (μ 1330 ((h + m : Nat) : Int)) (c : Int) 1329 = μ 1329 := by rw [zup_ne (by decide)]; exact r2
      have u8 : zup ρ 1328 (μ 1330 ((h + m : Nat) : Int)) (c : Int) 1330 = μ 1330 := by rw [zup_ne (by decide)]; exact r3
      have u5 : zup ρ 1328 (μ 1330 ((h + m : Nat) : Int)) (c : Int) 1327 = μ 1327 := by rw [zup_ne (by decide)]; exact r5
      have u6 : zup ρ 1328 (μ 1330 ((h + m : Nat) : Int)) (c : Int) 1328 = zsu (μ 1328) (μ 1330 ((h + m : Nat) : Int)) c := by rw [zup_fn, r6]
      refine ih _ c (by rw [zup_ne (by decide)]; exact r1) (by rw [zup_ne (by decide)]; exact r4) (by omega) (fun j h1 h2 => by rw [u7, u8]; exact hj j h1 (by omega)) (by rw [u7]; exact hb) ?_
      rw [u7, u8, u5, u6]
      have pe : zpp (μ 1329 ((h + m : Nat) : Int)) (μ 1330 ((h + m : Nat) : Int)) (μ 1327, μ 1328, c) = (μ 1327, zsu (μ 1328) (μ 1330 ((h + m : Nat) : Int)) c, c) := by unfold zpp; rw [if_pos e]
      rw [pe] at hQ
      intro ν f
      refine hQ ν (rf.trans (zSf.trans ⟨fun b _ _ h3 => zup_ne h3, fun j _ _ => by rw [zup_ne (by decide)]⟩ f))
    refine ⟨by omega, fun e => ⟨by omega, ⟨hj2, hj3⟩, jump (Or.inl e)⟩, fun ne28 => ⟨by omega, fun ne29 => ⟨by omega, ?_⟩, fun e => ⟨by omega, ⟨hj2, hj3⟩, jump (Or.inr e)⟩⟩⟩
    refine c_M_emit (a0 := 1320) ?_
    simp only [Int.reduceAdd]
    have u1 : zup ρ 1327 (c : Int) (μ 1329 ((h + m : Nat) : Int)) 1320 16 = c := by rw [zup_ne (by decide)]; exact r4
    have u2 : zup (zup ρ 1327 (c : Int) (μ 1329 ((h + m : Nat) : Int))) 1328 (c : Int) 0 1320 16 = c := by rw [zup_ne (by decide)]; exact u1
    rw [r4, u1, u2, zw_of (by omega) (by omega)]
    refine ⟨by omega, by omega, ?_⟩
    have w1 : (zup (zup (zup ρ 1327 (c : Int) (μ 1329 ((h + m : Nat) : Int))) 1328 (c : Int) 0) 1320 16 ((c : Int) + 1)) 1329 = μ 1329 := by rw [zup_ne (by decide), zup_ne (by decide), zup_ne (by decide)]; exact r2
    have w2 : (zup (zup (zup ρ 1327 (c : Int) (μ 1329 ((h + m : Nat) : Int))) 1328 (c : Int) 0) 1320 16 ((c : Int) + 1)) 1330 = μ 1330 := by rw [zup_ne (by decide), zup_ne (by decide), zup_ne (by decide)]; exact r3
    have w3 : (zup (zup (zup ρ 1327 (c : Int) (μ 1329 ((h + m : Nat) : Int))) 1328 (c : Int) 0) 1320 16 ((c : Int) + 1)) 1327 = zsu (μ 1327) c (μ 1329 ((h + m : Nat) : Int)) := by rw [zup_ne (by decide), zup_ne (by decide), zup_fn, r5]
    have w4 : (zup (zup (zup ρ 1327 (c : Int) (μ 1329 ((h + m : Nat) : Int))) 1328 (c : Int) 0) 1320 16 ((c : Int) + 1)) 1328 = zsu (μ 1328) c 0 := by rw [zup_ne (by decide), zup_fn, zup_ne (by decide), r6]
    have wf : zSf ρ (zup (zup (zup ρ 1327 (c : Int) (μ 1329 ((h + m : Nat) : Int))) 1328 (c : Int) 0) 1320 16 ((c : Int) + 1)) := ⟨fun b h1 h2 h3 => by rw [zup_ne h1, zup_ne h3, zup_ne h2], fun j h1 _ => by rw [zup_miss (by omega), zup_ne (by decide), zup_ne (by decide)]⟩
    have w5 : (zup (zup (zup ρ 1327 (c : Int) (μ 1329 ((h + m : Nat) : Int))) 1328 (c : Int) 0) 1320 16 ((c : Int) + 1)) 1320 22 = ((h + m : Nat) : Int) := by rw [zup_miss (by decide), zup_ne (by decide), zup_ne (by decide)]; exact r1
    have w6 : (zup (zup (zup ρ 1327 (c : Int) (μ 1329 ((h + m : Nat) : Int))) 1328 (c : Int) 0) 1320 16 ((c : Int) + 1)) 1320 16 = ((c + 1 : Nat) : Int) := zup_hit
    generalize zup (zup (zup ρ 1327 (c : Int) (μ 1329 ((h + m : Nat) : Int))) 1328 (c : Int) 0) 1320 16 ((c : Int) + 1) = τ at w1 w2 w3 w4 w5 w6 wf ⊢
    refine ih τ (c + 1) w5 w6 (by omega) (fun j h1 h2 => by rw [w1, w2]; exact hj j h1 (by omega)) (by rw [w1]; exact hb) ?_
    rw [w1, w2, w3, w4]
    have pe : zpp (μ 1329 ((h + m : Nat) : Int)) (μ 1330 ((h + m : Nat) : Int)) (μ 1327, μ 1328, c) = (zsu (μ 1327) c (μ 1329 ((h + m : Nat) : Int)), zsu (μ 1328) c 0, c + 1) := by unfold zpp; rw [if_neg (fun z => z.elim ne28 ne29)]
    rw [pe] at hQ
    intro ν f
    exact hQ ν (rf.trans (wf.trans f))
theorem k_M_settle {κ : Int} {h m c : Nat} {μ : zM} {Q : zM → Prop} (hd : 1 ≤ d) (e22 : μ 1320 22 = ((h + m : Nat) : Int)) (e16 : μ 1320 16 = c) (hc : c + h + m ≤ 400) (hj : ∀ j : Int, (h : Int) ≤ j → j < ((h + m : Nat) : Int) → κ ≤ zbi (μ 1329 j) ∧ 0 ≤ μ 1330 j ∧ μ 1330 j < 400) (hb : h = 0 ∨ zbi (μ 1329 ((h : Int) - 1)) < κ) (hQ : ∀ ν, zSf μ ν → ν 1327 = (zVp (μ 1329) (μ 1330) m h (μ 1327, μ 1328, c)).1 → ν 1328 = (zVp (μ 1329) (μ 1330) m h (μ 1327, μ 1328, c)).2.1 → ν 1320 16 = ((zVp (μ 1329) (μ 1330) m h (μ 1327, μ 1328, c)).2.2 : Nat) → ν 1320 22 = h → Q ν) : zCv X true l d 0 0 y_M_settle [(13, 0, 1320), (0, 0, κ)] μ Q := by
  exact zC'_of (by decide +kernel) (Nat.le_of_ble_eq_true rfl) rfl (k_M_settle' hd m μ c e22 e16 hc hj hb hQ)
/-- settled, at the level of states -/
theorem kS_settle {κ : Int} {h m c : Nat} {μ : zM} {Q : zM → Prop} (hd : 1 ≤ d) (k : zSm μ0 μ T L q c (h + m) dp lv O A P B) (v : zVd c (h + m) B) (hj : ∀ j : Int, (h : Int) ≤ j → j < ((h + m : Nat) : Int) → κ ≤ zbi (P j)) (hb : h = 0 ∨ zbi (P ((h : Int) - 1)) < κ) (hQ : ∀ ν, zSm μ0 ν T L q (zVp P B m h (O, A, c)).2.2 h dp lv (zVp P B m h (O, A, c)).1 (zVp P B m h (O, A, c)).2.1 P B → Q ν) : zCv X true l d 0 0 y_M_settle [(13, 0, 1320), (0, 0, κ)] μ Q := by
  obtain ⟨k1, k2, k3, k4, k5, k6, k7, k8, k9, k10, k11⟩ := k
  subst k8 k9 k10 k11
  have v1 := v.1
  refine k_M_settle hd k5 k4 (by omega) (fun j h1 h2 => ⟨hj j h1 h2, v.2 j (by omega) h2⟩) hb (fun ν f n1 n2 n3 n4 => hQ ν ⟨⟨fun b h1 h2 h3 h4 h5 => (f.1 b h1 h2 h3).trans (k1.1 b h1 h2 h3 h4 h5), fun j h1 h2 h3 h4 h5 => (f.2 j h2 h4).trans (k1.2 j h1 h2 h3 h4 h5)⟩, k2.keep (f.1 1325 (by decide) (by decide) (by decide)) (fun j h1 h2 => f.2 j (by omega) (by omega)), ?_, n3, n4, ?_, ?_, n1, n2, f.1 1329 (by decide) (by decide) (by decide), f.1 1330 (by decide) (by decide) (by decide)⟩)
  · rw [f.2 13 (by decide) (by decide)]; exact k3
  · rw [f.2 23 (by decide) (by decide)]; exact k6
  · rw [f.2 19 (by decide) (by decide)]; exact k7
end

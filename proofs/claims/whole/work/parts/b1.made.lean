/-! the constructors: what has been made, cell by cell -/
abbrev zCs : Type := List (Nat × Nat × (Int → Int))
/-- μ is μ0 and behind it, from a on, these cells -/
def zDe (μ0 μ : zM) (a n : Nat) (cs : zCs) : Prop := μ (-1) 0 = ((a + n : Nat) : Int) ∧ cs.length = n ∧ (∀ b : Int, 0 ≤ b → b < a → μ b = μ0 b ∧ μ (-2) b = μ0 (-2) b ∧ μ (-3) b = μ0 (-3) b) ∧ ∀ (r : Nat) (x : Nat × Nat × (Int → Int)), cs[r]? = some x → μ ((a + r : Nat) : Int) = x.2.2 ∧ μ (-2) ((a + r : Nat) : Int) = x.1 ∧ μ (-3) ((a + r : Nat) : Int) = x.2.1
theorem zDe.nil {μ : zM} {a : Nat} (h : μ (-1) 0 = (a : Int)) : zDe μ μ a 0 [] := ⟨h, rfl, fun _ _ _ => ⟨rfl, rfl, rfl⟩, fun r x e => by cases e⟩
theorem zDe.new {μ0 μ : zM} {a n : Nat} {cs : zCs} {t L : Nat} (D : zDe μ0 μ a n cs) : zDe μ0 (zal μ t L) a (n + 1) (cs ++ [(t, L, zdf t L)]) := by
  obtain ⟨d1, d2, d3, d4⟩ := D
  refine ⟨by rw [zal_n, d1]; rfl, by rw [List.length_append, d2]; rfl, fun b b0 b1 => ?_, fun r x e => ?_⟩
  · obtain ⟨k, rfl⟩ : ∃ k : Nat, b = (k : Int) := ⟨b.toNat, by omega⟩
    obtain ⟨o1, o2, o3⟩ := zal_old μ t L (k := k) (by rw [d1]; omega)
    rw [o1, o2, o3]
    exact d3 k b0 b1
  · by_cases hr : r < n
    · rw [List.getElem?_append_left (by omega)] at e
      obtain ⟨o1, o2, o3⟩ := zal_old μ t L (k := a + r) (by rw [d1]; omega)
      rw [o1, o2, o3]
      exact d4 r x e
    · have hr2 : r = n := by
        have := (List.getElem?_eq_some_iff.mp e).1
        rw [List.length_append, d2] at this
        have : r < n + 1 := this
        omega
      subst hr2
      rw [List.getElem?_append_right (by omega), d2, Nat.sub_self] at e
      cases e
      exact zal_new μ t L (by rw [d1])
theorem zDe.put {μ0 μ : zM} {a n : Nat} {cs : zCs} {r : Nat} {x : Nat × Nat × (Int → Int)} {i v c : Int} (D : zDe μ0 μ a n cs) (hx : cs[r]? = some x) (hc : c = ((a + r : Nat) : Int)) : zDe μ0 (zup μ c i v) a n (cs.set r (x.1, x.2.1, zsu x.2.2 i v)) := by
  subst hc
  obtain ⟨d1, d2, d3, d4⟩ := D
  refine ⟨by rw [zup_ne (by omega)]; exact d1, by rw [List.length_set]; exact d2, fun b b0 b1 => ?_, fun r' x' e => ?_⟩
  · rw [zup_ne (by omega), zup_ne (by omega), zup_ne (by omega)]
    exact d3 b b0 b1
  · rw [zup_ne (b := -2) (by omega), zup_ne (b := -3) (by omega)]
    by_cases hr : r' = r
    · subst hr
      have hl : r' < cs.length := (List.getElem?_eq_some_iff.mp hx).1
      rw [List.getElem?_set_self hl] at e
      cases e
      obtain ⟨h1, h2, h3⟩ := d4 r' x hx
      refine ⟨?_, h2, h3⟩
      rw [zup_fn, h1]
    · rw [List.getElem?_set_ne (fun z => hr z.symm)] at e
      rw [zup_ne (by omega)]
      exact d4 r' x' e
def zfs9 (f : Int → Int) (L v : Int) : Int → Int := fun j => if 0 ≤ j ∧ j < L then v else f j
theorem zDe.fill {μ0 μ : zM} {a n : Nat} {cs : zCs} {r : Nat} {x : Nat × Nat × (Int → Int)} {L v c : Int} (D : zDe μ0 μ a n cs) (hx : cs[r]? = some x) (hc : c = ((a + r : Nat) : Int)) : zDe μ0 (zfl μ c 0 L v) a n (cs.set r (x.1, x.2.1, zfs9 x.2.2 L v)) := by
  subst hc
  obtain ⟨d1, d2, d3, d4⟩ := D
  have ne : ∀ b : Int, b ≠ ((a + r : Nat) : Int) → zfl μ ((a + r : Nat) : Int) 0 L v b = μ b := fun b hb => by
    funext j
    unfold zfl
    rw [if_neg (fun z => hb z.1)]
  refine ⟨by rw [ne _ (by omega)]; exact d1, by rw [List.length_set]; exact d2, fun b b0 b1 => ?_, fun r' x' e => ?_⟩
  · rw [ne _ (by omega), ne _ (by omega), ne _ (by omega)]
    exact d3 b b0 b1
  · rw [ne (-2) (by omega), ne (-3) (by omega)]
    by_cases hr : r' = r
    · subst hr
      have hl : r' < cs.length := (List.getElem?_eq_some_iff.mp hx).1
      rw [List.getElem?_set_self hl] at e
      cases e
      obtain ⟨h1, h2, h3⟩ := d4 r' x hx
      refine ⟨?_, h2, h3⟩
      funext j
      show zfl μ ((a + r' : Nat) : Int) 0 L v ((a + r' : Nat) : Int) j = zfs9 x.2.2 L v j
      unfold zfl zfs9
      by_cases hj : 0 ≤ j ∧ j < L
      · rw [if_pos ⟨rfl, hj⟩, if_pos hj]
      · rw [if_neg (fun z => hj z.2), if_neg hj, h1]
    · rw [List.getElem?_set_ne (fun z => hr z.symm)] at e
      rw [ne _ (by omega)]
      exact d4 r' x' e
theorem zDe.pu {μ0 μ : zM} {a n : Nat} {cs : zCs} {r t L : Nat} {f : Int → Int} (c i v : Int) (D : zDe μ0 μ a n cs) (hx : cs[r]? = some (t, L, f)) (hc : c = ((a + r : Nat) : Int)) : zDe μ0 (zup μ c i v) a n (cs.set r (t, L, zsu f i v)) := D.put hx hc
theorem zDe.fi {μ0 μ : zM} {a n : Nat} {cs : zCs} {r t L : Nat} {f : Int → Int} (c l v : Int) (D : zDe μ0 μ a n cs) (hx : cs[r]? = some (t, L, f)) (hc : c = ((a + r : Nat) : Int)) : zDe μ0 (zfl μ c 0 l v) a n (cs.set r (t, L, zfs9 f l v)) := D.fill hx hc
theorem zDe.sub {μ0 μ ν : zM} {a n m : Nat} {cs ds : zCs} (D : zDe μ0 μ a n cs) (E : zDe μ ν (a + n) m ds) : zDe μ0 ν a (n + m) (cs ++ ds) := by
  obtain ⟨d1, d2, d3, d4⟩ := D
  obtain ⟨e1, e2, e3, e4⟩ := E
  refine ⟨by rw [e1, Nat.add_assoc], by rw [List.length_append, d2, e2], fun b b0 b1 => ?_, fun r x e => ?_⟩
  · obtain ⟨p1, p2, p3⟩ := e3 b b0 (by omega)
    rw [p1, p2, p3]
    exact d3 b b0 b1
  · by_cases hr : r < n
    · rw [List.getElem?_append_left (by omega)] at e
      obtain ⟨p1, p2, p3⟩ := e3 ((a + r : Nat) : Int) (by omega) (by omega)
      rw [p1, p2, p3]
      exact d4 r x e
    · rw [List.getElem?_append_right (by omega), d2] at e
      have := e4 (r - n) x e
      rw [show a + n + (r - n) = a + r by omega] at this
      exact this
theorem zDe.get {μ0 μ : zM} {a n : Nat} {cs : zCs} {r : Nat} {x : Nat × Nat × (Int → Int)} {c : Int} (D : zDe μ0 μ a n cs) (hx : cs[r]? = some x) (hc : c = ((a + r : Nat) : Int)) : μ c = x.2.2 := by
  subst hc; exact (D.2.2.2 r x hx).1
theorem zDe.ge {μ0 μ : zM} {a n : Nat} {cs : zCs} {r t L : Nat} {f : Int → Int} (c i : Int) (D : zDe μ0 μ a n cs) (hx : cs[r]? = some (t, L, f)) (hc : c = ((a + r : Nat) : Int)) : μ c i = f i := by
  subst hc; exact congrFun (D.2.2.2 r _ hx).1 i
/-- the outer and the inner ones -/
theorem zDe.multi {μ0 μ : zM} {a n : Nat} {cs : zCs} (D : zDe μ0 μ a n cs) : zDe μ0 (zmu μ) a (n + 4) (cs ++ [(18, 3, zsu (zsu (zsu (zdf 18 3) 0 ((a + n + 1 : Nat) : Int)) 1 ((a + n + 2 : Nat) : Int)) 2 ((a + n + 3 : Nat) : Int)), (12, 5, zdf 12 5), (12, 5, zdf 12 5), (12, 5, zdf 12 5)]) := by
  have E : zDe μ (zmu μ) (a + n) 4 [(18, 3, zsu (zsu (zsu (zdf 18 3) 0 ((a + n + 1 : Nat) : Int)) 1 ((a + n + 2 : Nat) : Int)) 2 ((a + n + 3 : Nat) : Int)), (12, 5, zdf 12 5), (12, 5, zdf 12 5), (12, 5, zdf 12 5)] := by
    have e1 := D.1
    have A := ((((zDe.nil e1).new (t := 18) (L := 3)).new (t := 12) (L := 5)).new (t := 12) (L := 5)).new (t := 12) (L := 5)
    have B := ((A.put (r := 0) (i := 0) (v := μ (-1) 0 + 1) (c := μ (-1) 0) rfl e1).put (r := 0) (i := 1) (v := μ (-1) 0 + 2) (c := μ (-1) 0) rfl e1).put (r := 0) (i := 2) (v := μ (-1) 0 + 3) (c := μ (-1) 0) rfl e1
    have e2 : μ (-1) 0 + 1 = ((a + n + 1 : Nat) : Int) := by rw [e1]; rfl
    have e3 : μ (-1) 0 + 2 = ((a + n + 2 : Nat) : Int) := by rw [e1]; rfl
    have e4 : μ (-1) 0 + 3 = ((a + n + 3 : Nat) : Int) := by rw [e1]; rfl
    rw [← e2, ← e3, ← e4]
    exact B
  exact D.sub E
theorem zDe.to {μ0 μ : zM} {a n n' : Nat} {cs ds : zCs} (D : zDe μ0 μ a n cs) (h : cs = ds) (hn : n = n') : zDe μ0 μ a n' ds := by subst h; subst hn; exact D
section
variable {X : zX} {g : Bool} {l : Launch} {d d' bc bs mc ms : Nat} {y q : zMt} {pc pc' : Nat} {ls ls' : List (Option zV)} {st st' rest as : List zV} {μ : zM} {Q : Option zV → zM → Prop}
theorem zD_new {n t L : Nat} (hb : 1 ≤ bc ∧ zN t ≤ bs) (hd : zI y.2.1 pc (.new n) 3 pc') (ht : t < 12) (hLn : L < 2147483648) (hcl : Cond.classLink y.1.cls n (zC t) ∈ lw_tbl) (hin : Cond.instantiable (zC t) (zN t) ∈ lw_tbl) (hini : Cond.initialized (zC t) ∈ lw_tbl) (k : zE X false l d (bc - 1) (bs - zN t) y pc' ls ((t + 2, L, μ (-1) 0) :: st) (zal μ t L) Q) : zE X false l d bc bs y pc ls st μ Q :=
  zE_bud (bc' := 1 + (bc - 1)) (bs' := zN t + (bs - zN t)) (by omega) (by omega) (zE_new hd ht hLn hcl hin hini k)
theorem zD_newa {at' : ArrayType} {t L : Nat} {n : Int} (hb : 1 ≤ bc ∧ L ≤ bs) (hd : zI y.2.1 pc (.newarray at') 2 pc') (h : t = 12 ∧ at' = .int ∨ t = 13 ∧ at' = .long ∨ t = 14 ∧ at' = .boolean) (hL : n = (L : Int)) (hn2 : L < 60000000) (hw : Cond.arrayClass (newarray.typeOf at') ∈ lw_tbl) (k : zE X false l d (bc - 1) (bs - L) y pc' ls ((t + 2, L, μ (-1) 0) :: st) (zal μ t L) Q) : zE X false l d bc bs y pc ls ((0, 0, n) :: st) μ Q := by
  subst hL
  have e : ((L : Int)).toNat = L := Int.toNat_natCast L
  refine zE_bud (bc' := 1 + (bc - 1)) (bs' := ((L : Int)).toNat + (bs - L)) (by omega) (by omega) (zE_newa (n := (L : Int)) hd h (by omega) (by omega) hw ?_)
  rw [e]
  exact k
theorem zD_anew {i t t' L : Nat} {n : Int} (hb : 1 ≤ bc ∧ L ≤ bs) (hd : zI y.2.1 pc (.anewarray i) 3 pc') (ht : 16 ≤ t) (ht2 : t < 26) (hy : zay t = .object (zC t')) (hC : zC t' = "SmokeRoom$Plan" ∨ zC t' = "SmokeRoom$Law" ∨ zC t' = "SmokeRoom$Room" ∨ zC t' = "SmokeRoom$Big") (hk : ∀ L j : Nat, 100 ≤ (zsk t L j).1) (hcl : Cond.classLink y.1.cls i (zC t') ∈ lw_tbl) (hL : n = (L : Int)) (hn2 : L < 60000000) (k : zE X false l d (bc - 1) (bs - L) y pc' ls ((t + 2, L, μ (-1) 0) :: st) (zal μ t L) Q) : zE X false l d bc bs y pc ls ((0, 0, n) :: st) μ Q := by
  subst hL
  have e : ((L : Int)).toNat = L := Int.toNat_natCast L
  refine zE_bud (bc' := 1 + (bc - 1)) (bs' := ((L : Int)).toNat + (bs - L)) (by omega) (by omega) (zE_anew (n := (L : Int)) hd ht ht2 hy hC hk hcl (by omega) (by omega) ?_)
  rw [e]
  exact k
theorem zD_multi {index : Nat} (hb : 4 ≤ bc ∧ 18 ≤ bs) (hd : zI y.2.1 pc (.multianewarray index 2) 4 pc') (hcl : Cond.classLink y.1.cls index "[[I" ∈ lw_tbl) (hw : Cond.arrayClass .int ∈ lw_tbl) (k : zE X false l d (bc - 4) (bs - 18) y pc' ls ((20, 3, μ (-1) 0) :: st) (zmu μ) Q) : zE X false l d bc bs y pc ls ((0, 0, 5) :: (0, 0, 3) :: st) μ Q :=
  zE_bud (bc' := 4 + (bc - 4)) (bs' := 18 + (bs - 18)) (by omega) (by omega) (zE_multi hd hcl hw k)
theorem zD_calli {n t L : Nat} {b : Int} (hb : mc ≤ bc ∧ ms ≤ bs) (hst : st = as.reverse ++ (t + 2, L, b) :: rest) (hd : zI y.2.1 pc (.invokespecial n) 3 pc') (hm : zMi y.1.cls n q) (ht : t < 12) (hc : q.1.cls = zC t) (hn : zNp q as.length) (hdd : d' + 1 ≤ d) (hw : (rest.map fun v => if v.1 = 1 then 2 else 1).sum ≤ 8)
    (k : zC' X g l d' mc ms q ((t + 2, L, b) :: as) μ (fun r ν => zE X g l d (bc - mc) (bs - ms) y pc' ls (r.toList ++ rest) ν Q)) : zE X g l d bc bs y pc ls st μ Q :=
  zE_bud (bc' := mc + (bc - mc)) (bs' := ms + (bs - ms)) (by omega) (by omega) (zE_calli hd hm hst ht hc hn hdd hw k)
theorem zD_calls {n : Nat} (hst : st = as.reverse ++ rest) (hd : zI y.2.1 pc (.invokestatic n) 3 pc') (hm : zMs y.1.cls n q) (hn : zNp q as.length) (hdd : d' + 1 ≤ d) (hw : (rest.map fun v => if v.1 = 1 then 2 else 1).sum ≤ 8)
    (k : zC' X g l d' 0 0 q as μ (fun r ν => zE X g l d bc bs y pc' ls (r.toList ++ rest) ν Q)) : zE X g l d bc bs y pc ls st μ Q :=
  zE_bud (bc' := 0 + bc) (bs' := 0 + bs) (by omega) (by omega) (zE_calls (mc := 0) (ms := 0) hd hm hst hn hdd hw k)
end

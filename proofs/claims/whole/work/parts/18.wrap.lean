section
variable {X : zX} {g : Bool} {l : Launch} {d d' bc bs mc ms : Nat} {y q : zMt} {pc pc' : Nat} {ls ls' : List (Option zV)} {st st' rest as : List zV} {μ : zM} {Q : Option zV → zM → Prop}
theorem zG_getf {t L i n : Nat} {j a : Int} {k0 L0 : Nat} (hj : (i : Int) = j) (hd : zI y.2.1 pc (.getfield n) 3 pc') (hf : zFl y.1.cls n t i) (hk : zsk t L i = (k0, L0)) (k : zE X g l d bc bs y pc' ls ((k0, L0, μ a j) :: st) μ Q) : zE X g l d bc bs y pc ls ((t + 2, L, a) :: st) μ Q := by
  subst hj
  exact zE_getf hd hf hk k
theorem zG_puti {t L i n : Nat} {j a v : Int} (hj : (i : Int) = j) (hd : zI y.2.1 pc (.putfield n) 3 pc') (hf : zFl y.1.cls n t i) (hk : zsk t L i = (0, 0)) (hy : zY t i = .int) (hg : g = true → zof t i = none ∧ zst t = none) (hfin : (zT t i).2.2.2 = false ∨ ((zT t i).2.2.2 = true ∧ y.1.name = "<init>" ∧ y.1.cls = zC t ∧ Cond.fieldLink y.1.cls n (zC t) (zT t i).2.1 (zT t i).2.2.1 ∈ lw_tbl)) (k : zE X g l d bc bs y pc' ls st (zup μ a j v) Q) : zE X g l d bc bs y pc ls ((0, 0, v) :: (t + 2, L, a) :: st) μ Q := by
  subst hj
  exact zE_puti hd hf hk hy hg hfin k
theorem zG_putl {t L i n : Nat} {j a v : Int} (hj : (i : Int) = j) (hd : zI y.2.1 pc (.putfield n) 3 pc') (hf : zFl y.1.cls n t i) (hk : zsk t L i = (1, 0)) (hy : zY t i = .long) (hg : g = true → zof t i = none ∧ zst t = none) (hfin : (zT t i).2.2.2 = false) (k : zE X g l d bc bs y pc' ls st (zup μ a j v) Q) : zE X g l d bc bs y pc ls ((1, 0, v) :: (t + 2, L, a) :: st) μ Q := by
  subst hj
  exact zE_putl hd hf hk hy hg hfin k
theorem zG_putz {t L i n : Nat} {j a v : Int} (hj : (i : Int) = j) (hd : zI y.2.1 pc (.putfield n) 3 pc') (hf : zFl y.1.cls n t i) (hk : zsk t L i = (0, 0)) (hy : zY t i = .boolean) (hv : v = 0 ∨ v = 1) (hg : g = true → zof t i = none ∧ zst t = none) (hfin : (zT t i).2.2.2 = false) (k : zE X g l d bc bs y pc' ls st (zup μ a j v) Q) : zE X g l d bc bs y pc ls ((0, 0, v) :: (t + 2, L, a) :: st) μ Q := by
  subst hj
  exact zE_putz hd hf hk hy hv hg hfin k
theorem zG_putr {t L i n : Nat} {j a v : Int} {t' L' : Nat} (hj : (i : Int) = j) (hd : zI y.2.1 pc (.putfield n) 3 pc') (hf : zFl y.1.cls n t i) (hk : zsk t L i = (100 + t', L')) (hy : (∃ c, zY t i = .object c) ∨ ∃ c, zY t i = .array c) (ht' : t' < 30) (hg : g = true → zof t i = none ∧ zst t = none) (hfin : (zT t i).2.2.2 = false ∨ ((zT t i).2.2.2 = true ∧ y.1.name = "<init>" ∧ y.1.cls = zC t ∧ Cond.fieldLink y.1.cls n (zC t) (zT t i).2.1 (zT t i).2.2.1 ∈ lw_tbl)) (k : zE X g l d bc bs y pc' ls st (zup μ a j v) Q) : zE X g l d bc bs y pc ls ((t' + 2, L', v) :: (t + 2, L, a) :: st) μ Q := by
  subst hj
  exact zE_putr hd hf hk hy ht' hg hfin k
theorem zG_putn {t L i n : Nat} {j a v : Int} {t' L' : Nat} (hj : (i : Int) = j) (hd : zI y.2.1 pc (.putfield n) 3 pc') (hf : zFl y.1.cls n t i) (hk : zsk t L i = (100 + t', L')) (hy : (∃ c, zY t i = .object c) ∨ ∃ c, zY t i = .array c) (hg : g = true → zof t i = none ∧ zst t = none) (hfin : (zT t i).2.2.2 = false) (k : zE X g l d bc bs y pc' ls st (zup μ a j v) Q) : zE X g l d bc bs y pc ls ((100 + t', L', v) :: (t + 2, L, a) :: st) μ Q := by
  subst hj
  exact zE_putn hd hf hk hy hg hfin k
theorem zG_callv {n t L : Nat} {b : Int} (hst : st = as.reverse ++ (t + 2, L, b) :: rest) (hd : zI y.2.1 pc (.invokevirtual n) 3 pc') (hm : zMv y.1.cls n q) (ht : t < 12) (hc : q.1.cls = zC t) (hn : zNp q as.length) (hdd : d' + 1 ≤ d) (hw : (rest.map fun v => if v.1 = 1 then 2 else 1).sum ≤ 8)
    (k : zC' X g l d' 0 0 q ((t + 2, L, b) :: as) μ (fun r ν => zE X g l d 0 0 y pc' ls (r.toList ++ rest) ν Q)) : zE X g l d 0 0 y pc ls st μ Q := zE_callv (mc := 0) (ms := 0) (bc := 0) (bs := 0) hd hm hst ht hc hn hdd hw k
theorem zG_callS {n j : Nat} (hst : st = as.reverse ++ (33, j, 10 + (j : Int)) :: rest) (hd : zI y.2.1 pc (.invokevirtual n) 3 pc') (hm : zMv y.1.cls n q) (hj : j < 18) (hc : q.1.cls = "java/lang/String") (hn : zNp q as.length) (hdd : d' + 1 ≤ d) (hw : (rest.map fun v => if v.1 = 1 then 2 else 1).sum ≤ 8)
    (k : zC' X g l d' 0 0 q ((33, j, 10 + (j : Int)) :: as) μ (fun r ν => zE X g l d 0 0 y pc' ls (r.toList ++ rest) ν Q)) : zE X g l d 0 0 y pc ls st μ Q := zE_callS (mc := 0) (ms := 0) (bc := 0) (bs := 0) hd hm hst hj hc hn hdd hw k
theorem zG_calls {n : Nat} (hst : st = as.reverse ++ rest) (hd : zI y.2.1 pc (.invokestatic n) 3 pc') (hm : zMs y.1.cls n q) (hn : zNp q as.length) (hdd : d' + 1 ≤ d) (hw : (rest.map fun v => if v.1 = 1 then 2 else 1).sum ≤ 8)
    (k : zC' X g l d' 0 0 q as μ (fun r ν => zE X g l d 0 0 y pc' ls (r.toList ++ rest) ν Q)) : zE X g l d 0 0 y pc ls st μ Q := zE_calls (mc := 0) (ms := 0) (bc := 0) (bs := 0) hd hm hst hn hdd hw k
end

def zarg : List zV → List (Option zV)
  | [] => []
  | v :: r => match v.1 with
    | 1 => some v :: none :: zarg r
    | _ => some v :: zarg r
def zent (as : List zV) (n : Nat) : List (Option zV) := zarg as ++ List.replicate (n - (zarg as).length) none
theorem zarg_at {X : zX} : ∀ (as : List zV) (i0 i : Nat) (v : zV), (zarg as)[i]? = some (some v) → (i0 + i, zrv X v) ∈ lv_args i0 (as.map (zrv X)) ∧ v ∈ as := by
  intro as
  induction as with
  | nil => intro i0 i v h; simp [zarg] at h
  | cons a r ih =>
    intro i0 i v h
    have hc := zrv_cat (X := X) a
    rw [List.map_cons]
    by_cases e : a.1 = 1
    · have ez : zarg (a :: r) = some a :: none :: zarg r := by simp [zarg, e]
      rw [ez] at h
      rw [if_pos e] at hc
      have el : lv_args i0 (zrv X a :: r.map (zrv X)) = (i0, zrv X a) :: lv_args (i0 + 2) (r.map (zrv X)) := by
        show (i0, zrv X a) :: lv_args (if (zrv X a).category = 2 then i0 + 2 else i0 + 1) _ = _
        rw [if_pos hc]
      rw [el]
      match i, h with
      | 0, h => simp at h; subst h; exact ⟨List.mem_cons_self, List.mem_cons_self⟩
      | 1, h => simp at h
      | i + 2, h =>
        have := ih (i0 + 2) i v (by simpa using h)
        exact ⟨List.mem_cons_of_mem _ (by rw [show i0 + (i + 2) = i0 + 2 + i by omega]; exact this.1), List.mem_cons_of_mem _ this.2⟩
    · have ez : zarg (a :: r) = some a :: zarg r := by
        show (match a.1 with | 1 => some a :: none :: zarg r | _ => some a :: zarg r) = _
        split
        · exact absurd ‹_› e
        · rfl
      rw [ez] at h
      rw [if_neg e] at hc
      have el : lv_args i0 (zrv X a :: r.map (zrv X)) = (i0, zrv X a) :: lv_args (i0 + 1) (r.map (zrv X)) := by
        show (i0, zrv X a) :: lv_args (if (zrv X a).category = 2 then i0 + 2 else i0 + 1) _ = _
        rw [if_neg (by omega)]
      rw [el]
      match i, h with
      | 0, h => simp at h; subst h; exact ⟨List.mem_cons_self, List.mem_cons_self⟩
      | i + 1, h =>
        have := ih (i0 + 1) i v (by simpa using h)
        exact ⟨List.mem_cons_of_mem _ (by rw [show i0 + (i + 1) = i0 + 1 + i by omega]; exact this.1), List.mem_cons_of_mem _ this.2⟩
theorem zarg_len {X : zX} (as : List zV) : (lg_sl (as.map (zrv X))).length = (zarg as).length := by
  induction as with
  | nil => rfl
  | cons a r ih =>
    have hc := zrv_cat (X := X) a
    unfold lg_sl at ih ⊢
    rw [List.map_cons, List.flatMap_cons, List.length_append, ih]
    by_cases e : a.1 = 1
    · rw [if_pos e] at hc
      simp [hc, zarg, e]
      omega
    · rw [if_neg e] at hc
      have ez : zarg (a :: r) = some a :: zarg r := by
        show (match a.1 with | 1 => some a :: none :: zarg r | _ => some a :: zarg r) = _
        split
        · exact absurd ‹_› e
        · rfl
      rw [ez]
      simp [hc]
      omega
theorem zC'_of {X : zX} {g : Bool} {l : Launch} {d bc bs : Nat} {y : zMt} {as : List zV} {ls : List (Option zV)} {μ : zM} {Q : Option zV → zM → Prop} (hy : plainName y.1.cls = true) (hn : (zarg as).length ≤ y.2.2.1) (hl : zent as y.2.2.1 = ls) (k : zE X g l d bc bs y 0 ls [] μ Q) : zC' X g l d bc bs y as μ Q := by
  subst hl
  intro R h1 h2 h3 h4
  refine Met.ofW (cc := y.2.1) (maxL := y.2.2.1) (ret := y.2.2.2) (ws' := []) hy rfl ?_
  intro p e s m args below meth c s₁ B hml hv
  obtain ⟨rfl, q1, q2, q3, q4, q5⟩ := hv
  have hl := lv_entry (as.map (zrv X)) (n := y.2.2.1) (by rw [zarg_len]; exact hn)
  rw [lg_entry_eq]
  generalize (lg_sl (as.map (zrv X)) ++ List.replicate (y.2.2.1 - (lg_sl (as.map (zrv X))).length) Slot.unset).toArray = la at hl ⊢
  have := k p e R s m ((as.map (zrv X)).toArray) below meth c s.heap [] la 0 0 ⟨B.exec, B.bytes, B.returns, hml, findClass_of_methodNamed B.named, B.notSynchronized, (name_of_methodNamed B.named B.method).1, q2, q3, q4⟩ ⟨h1, h2, by omega, by omega⟩ va_S.rf q5 ⟨hl.1, hl.2.1, fun i v hi => ?_⟩ (fun v hv => absurd hv List.not_mem_nil)
  · rw [h3, h4] at this
    exact this
  · have hz : (zarg as)[i]? = some (some v) := by
      unfold zent at hi
      by_cases e : i < (zarg as).length
      · rw [List.getElem?_append_left e] at hi
        exact hi
      · rw [List.getElem?_append_right (by omega)] at hi
        have := List.mem_of_getElem? hi
        simp at this
    have hh := zarg_at (X := X) as 0 i v hz
    rw [Nat.zero_add] at hh
    exact ⟨hl.2.2 _ hh.1, q1 v hh.2⟩
theorem zC'_mono {X : zX} {g : Bool} {l : Launch} {d bc bs : Nat} {y : zMt} {as : List zV} {μ : zM} {Q Q' : Option zV → zM → Prop} (h : ∀ r ν, Q r ν → Q' r ν) (k : zC' X g l d bc bs y as μ Q) : zC' X g l d bc bs y as μ Q' := by
  intro R h1 h2 h3 h4
  refine MetFree.mono (k R h1 h2 h3 h4) (fun _ _ h => h) (fun _ _ _ _ _ h => h) (fun args st oc t _ hq => ?_)
  obtain ⟨⟨⟨r, ν, q1, q2, q3, q4⟩, q5⟩, q6⟩ := hq
  exact ⟨⟨⟨r, ν, q1, q2, h r ν q3, q4⟩, q5⟩, q6⟩
theorem zC'_deep {X : zX} {g : Bool} {l : Launch} {d d' bc bs : Nat} {y : zMt} {as : List zV} {μ : zM} {Q : Option zV → zM → Prop} (h : d' ≤ d) (k : zC' X g l d' bc bs y as μ Q) : zC' X g l d bc bs y as μ Q := fun R h1 h2 h3 h4 => k R (by omega) (by omega) h3 h4
section
variable {X : zX} {g : Bool} {l : Launch} {d d' bc bs mc ms : Nat} {y q : zMt} {pc pc' : Nat} {ls ls' : List (Option zV)} {st st' rest as : List zV} {μ : zM} {Q : Option zV → zM → Prop}
theorem zE_ret (hd : zI y.2.1 pc .return_ 1 pc') (hr : y.2.2.2 = none) (k : Q none μ) : zE X g l d bc bs y pc ls [] μ Q := by
  intro p e R s m args below meth c H locs la cells slots hE hR hS hM hL hst
  refine W.widen (k := R.cells) (n := R.slots) (by have := hR.2.2.1; omega) (by have := hR.2.2.2; omega) ?_
  exact W.vret hE.1 hE.2.1 (by rw [hE.2.2.1, hr]) (fun t ht hW => ⟨⟨none, μ, rfl, fun v hv => (by cases hv), k, by rw [ht]; exact hM, zext.rfl⟩, by rw [← ht] at hS; exact ⟨hS.1, hS.2.1⟩⟩) hS.2.2 hd.1 hE.2.2.2.2.2.1
theorem zE_iret {v : Int} (hd : zI y.2.1 pc .ireturn 1 pc') (hr : y.2.2.2 = some .int) (k : Q (some (0, 0, v)) μ) : zE X g l d bc bs y pc ls [(0, 0, v)] μ Q := by
  intro p e R s m args below meth c H locs la cells slots hE hR hS hM hL hst
  refine W.widen (k := R.cells) (n := R.slots) (by have := hR.2.2.1; omega) (by have := hR.2.2.2; omega) ?_
  exact W.iret hE.1 hE.2.1 (by rw [hE.2.2.1, hr]) (fun t ht hW => ⟨⟨some (0, 0, v), μ, rfl, fun w hw => (by cases hw; exact (zcons hst).1), k, by rw [ht]; exact hM, zext.rfl⟩, by rw [← ht] at hS; exact ⟨hS.1, hS.2.1⟩⟩) hS.2.2 hd.1 hE.2.2.2.2.2.1
theorem zE_zret {v : Int} {ty : FieldType} (hd : zI y.2.1 pc .ireturn 1 pc') (hr : y.2.2.2 = some ty) (hn : narrow ty (.int (Int32.ofInt v)) = .int (Int32.ofInt v)) (k : Q (some (0, 0, v)) μ) : zE X g l d bc bs y pc ls [(0, 0, v)] μ Q := by
  intro p e R s m args below meth c H locs la cells slots hE hR hS hM hL hst
  refine W.widen (k := R.cells) (n := R.slots) (by have := hR.2.2.1; omega) (by have := hR.2.2.2; omega) ?_
  exact W.zret hE.1 hE.2.1 (by rw [hE.2.2.1, hr]) hn (fun t ht hW => ⟨⟨some (0, 0, v), μ, rfl, fun w hw => (by cases hw; exact (zcons hst).1), k, by rw [ht]; exact hM, zext.rfl⟩, by rw [← ht] at hS; exact ⟨hS.1, hS.2.1⟩⟩) hS.2.2 hd.1 hE.2.2.2.2.2.1
theorem zE_bret {v : Int} (hd : zI y.2.1 pc .ireturn 1 pc') (hr : y.2.2.2 = some .boolean) (hv : v = 0 ∨ v = 1) (k : Q (some (0, 0, v)) μ) : zE X g l d bc bs y pc ls [(0, 0, v)] μ Q :=
  zE_zret hd hr (by rcases hv with rfl | rfl <;> rfl) k
theorem zE_lret {v : Int} (hd : zI y.2.1 pc .lreturn 1 pc') (hr : y.2.2.2 = some .long) (k : Q (some (1, 0, v)) μ) : zE X g l d bc bs y pc ls [(1, 0, v)] μ Q := by
  intro p e R s m args below meth c H locs la cells slots hE hR hS hM hL hst
  refine W.widen (k := R.cells) (n := R.slots) (by have := hR.2.2.1; omega) (by have := hR.2.2.2; omega) ?_
  exact W.lret hE.1 hE.2.1 (by rw [hE.2.2.1, hr]) (fun t ht hW => ⟨⟨some (1, 0, v), μ, rfl, fun w hw => (by cases hw; exact (zcons hst).1), k, by rw [ht]; exact hM, zext.rfl⟩, by rw [← ht] at hS; exact ⟨hS.1, hS.2.1⟩⟩) hS.2.2 hd.1 hE.2.2.2.2.2.1
theorem zE_aret {t L : Nat} {v : Int} {c0 : String} (hd : zI y.2.1 pc .areturn 1 pc') (hr : y.2.2.2 = some (.object c0)) (ht : t + 2 < 100) (k : Q (some (t + 2, L, v)) μ) : zE X g l d bc bs y pc ls [(t + 2, L, v)] μ Q := by
  intro p e R s m args below meth c H locs la cells slots hE hR hS hM hL hst
  refine W.widen (k := R.cells) (n := R.slots) (by have := hR.2.2.1; omega) (by have := hR.2.2.2; omega) ?_
  exact W.aret (v := zrv X (t + 2, L, v)) hE.1 hE.2.1 (by rw [hE.2.2.1, hr]) (Or.inl ⟨_, rfl⟩) (Or.inr ⟨_, zrv_ref (zok_pos (zcons hst).1 ht)⟩) (fun t' ht' hW => ⟨⟨some (t + 2, L, v), μ, rfl, fun w hw => (by cases hw; exact (zcons hst).1), k, by rw [ht']; exact hM, zext.rfl⟩, by rw [← ht'] at hS; exact ⟨hS.1, hS.2.1⟩⟩) hS.2.2 hd.1 hE.2.2.2.2.2.1
/-- Object's own constructor -/
theorem zE_obj {n t L : Nat} {a : Int} (hd : zI y.2.1 pc (.invokespecial n) 3 pc') (hl : Cond.methodLink y.1.cls n Lib.objectInit ∈ lw_tbl) (hi : Cond.instanceMethod Lib.objectInit ∈ lw_tbl) (hc : Cond.code Lib.objectInit ⟨#[0xb1]⟩ 1 none ∈ lw_tbl) (hdd : 1 ≤ d) (ht : t < 12) (hw : (st.map fun v => if v.1 = 1 then 2 else 1).sum ≤ 8) (k : zE X g l d bc bs y pc' ls st μ Q) : zE X g l d bc bs y pc ls ((t + 2, L, a) :: st) μ Q := by
  obtain ⟨hd, rfl⟩ := hd
  intro p e R s m args below meth c H locs la cells slots hE hR hS hM hL hst
  have hK : zKn X s := hE.2.2.2.2.2.2.2.2.1
  have h0 := zok_pos (zcons hst).1 (by omega)
  rw [List.map_cons, zrv_ref h0]
  have e1 : ((st.map (zrv X)).map fun v => v.category).sum ≤ 8 := by
    rw [List.map_map]
    refine Nat.le_trans (Nat.le_of_eq ?_) hw
    congr 1
    exact List.map_congr_left fun v _ => zrv_cat v
  exact W.objInit hE.1 hE.2.1 hE.2.2.2.2.1 (hK.word hl rfl rfl) (hK.word hi rfl rfl) (hK.word hc rfl rfl) rfl (hL.1.trans hE.2.2.2.1.symm) rfl hd (by have := hR.1; omega) (by have := hR.2.1; show 2 * 0 + _ + 12 ≤ _; omega) (k p e R s m args below meth c H locs la cells slots hE hR hS hM hL (zcons hst).2)
end

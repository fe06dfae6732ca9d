theorem zAOA_moved {u U : State} (hvm : u.vm.Alike U.vm) (h : (Cond.arrayOver (.array .int)).before #[] u = true) : (Cond.arrayOver (.array .int)).before #[] U = true := by
  obtain ⟨comp, c, k, h1, h2, h3, h4, h5⟩ := arrayOverA_spec h
  obtain ⟨k', hk', he⟩ := hvm.2.2 _ _ h3
  have hi : (U.vm.classes.findIdx? fun (x : Class) => match x.kind with | .array component _ => component == comp | _ => false) = some c := by
    have e : u.vm.bare = U.vm.bare := by first | exact hvm.bare_eq | exact hvm.bare_eq.symm
    have hb := va_idx_bare u.vm comp
    have hb' := va_idx_bare U.vm comp
    rw [e] at hb
    exact hb'.symm.trans (hb.trans h2)
  have hkind : k'.kind = .array comp (.array .int) := by rw [he]; exact h4
  have f1 : U.vm.findClass (FieldType.array .int).toString = some comp := by rw [hvm.findClass]; exact h1
  have f2 : U.vm.findClass ("[" ++ (FieldType.array .int).toString) = some c := by rw [hvm.findClass]; exact h5
  unfold Cond.before Cond.holds
  simp only [Cond.value]
  rw [f1, Option.bind_some]
  refine (congrArg (fun o : Option Nat => (o.bind (fun c => (U.vm.classes[c]?).map fun (k : Class) => match k.kind with | .array _ ty => decide (ty = FieldType.array .int) && decide (U.vm.findClass ("[" ++ (FieldType.array .int).toString) = some c) | _ => false) == some true)) hi).trans ?_
  simp [hk', hkind, f2]
theorem zKn.warm {X : zX} {s U : State} (h : zKn X s) (hW : s.WarmedH U.vm) : zKn X U := by
  obtain ⟨h1, h2, h3, h4, h5⟩ := h
  refine ⟨fun w hw hg => ?_, h2.moved hW.alike, fun C hC => (h3 C hC).moved hW.alike, zAOA_moved hW.alike h4, fun j hj => (h5 j hj).warm hW⟩
  have h0 := h1 w hw hg
  unfold zgd at hg
  split at hg
  · exact word_at hW (Or.inr ⟨_, rfl⟩) h0
  · simp only [Bool.and_eq_true] at hg
    have := Cond.onTables_warmH (T := U) (args' := #[]) hW hg.1 hg.2 h0
    rwa [State.setVm_self] at this
theorem zOl.move {X : zX} {s U : State} {H H1 : Heap} (h : zOl X s H) (hvm : s.vm.Alike U.vm) (hq : ∀ a : Nat, a < H.size → ¬ zA X a → H1[a]? = H[a]?) : zOl X U H1 := by
  obtain ⟨h1, ⟨h2, h3⟩, ⟨h4, h5⟩, h6, h7, h8⟩ := h
  refine ⟨(h1.moved hvm).kept hq, ⟨(h2.moved hvm).kept hq, (h3.moved hvm).kept hq⟩, ⟨(h4.moved hvm).kept hq, (h5.moved hvm).kept hq⟩, (h6.moved hvm).kept hq, ?_, (h8.moved hvm).kept hq⟩
  rcases h7 with h7 | h7
  · exact Or.inl ((h7.moved hvm).kept hq)
  · exact Or.inr ((h7.moved hvm).kept hq)
theorem zPc_blind {X : zX} {g : Bool} {as : List zV} {μ : zM} : FrameBlind (va_Pc (as.map (zrv X)) (fun U => (∀ v ∈ as, zok μ v) ∧ X.1 ≤ U.heap.size ∧ zKn X U ∧ zOl X U U.heap ∧ zR X g μ U.heap)) := by
  intro a U gf mk ⟨q0, q1, q2, q3, q4, q5⟩
  exact ⟨q0, q1, q2, q3.warm (show U.WarmedH (U.calling gf mk a).vm from State.WarmedH.refl U), q4.move (U := U.calling gf mk a) (Vm.Alike.refl U.vm) (fun _ _ _ => rfl), q5⟩
/-- class own's pool entry n calls method q -/
def zMl (own : String) (n : Nat) (q : zMt) : Prop := (Cond.methodLink own n q.1 ∈ lw_tbl ∨ ∃ h : String, Cond.methodLinkNest own n q.1 h ∈ lw_tbl) ∧ Cond.code q.1 q.2.1 q.2.2.1 q.2.2.2 ∈ lw_tbl ∧ Cond.initialized q.1.cls ∈ lw_tbl ∧ (q.1.cls ≠ "java/lang/invoke/MethodHandle" ∧ q.1.cls ≠ "java/lang/invoke/VarHandle") ∧ q.2.2.1 < 40
def zMv (own : String) (n : Nat) (q : zMt) : Prop := zMl own n q ∧ Cond.instanceMethod q.1 ∈ lw_tbl ∧ Cond.selects q.1.cls q.1 q.1 ∈ lw_tbl
def zMs (own : String) (n : Nat) (q : zMt) : Prop := zMl own n q ∧ Cond.static q.1 ∈ lw_tbl
def zMi (own : String) (n : Nat) (q : zMt) : Prop := zMl own n q ∧ Cond.instanceMethod q.1 ∈ lw_tbl ∧ q.1.name = "<init>" ∧ q.2.2.2 = none
def zNp (q : zMt) (k : Nat) : Prop := (parseMethodDescriptor q.1.desc).map (fun d => d.parameters.length) = some k
section
variable {X : zX} {g : Bool} {l : Launch} {d d' bc bs mc ms : Nat} {y q : zMt} {pc pc' : Nat} {ls ls' : List (Option zV)} {st st' rest as : List zV} {μ : zM} {Q : Option zV → zM → Prop}
theorem zNp.use {q : zMt} {k : Nat} (h : zNp q k) : ∀ sig, parseMethodDescriptor q.1.desc = some sig → k = sig.parameters.length := fun sig hs => by
  unfold zNp at h
  rw [hs] at h
  exact (Option.some.inj h).symm
/-- what a call leaves -/
theorem zE_back {n : Nat} (hC : ∀ (p : Program) (e : Env) (R : Room) (s : State) (m : MethodId) (args : Array Value) (below : List Frame) (meth : Method) (c : Code) (H : Heap) (locs : List Loc) (la : Array Slot) (cells slots : Nat), zEnv X y p s m meth c → zRm d (mc + bc) (ms + bs) R cells slots → va_S (zA X) s.heap H locs → zR X g μ H → zLs X μ y.2.2.1 la ls → (∀ v ∈ st, zok μ v) →
      va_Run p l e R s m args below meth c H locs cells slots mc ms (F0 m pc la (st.map (zrv X))) (rest.map (zrv X)) (zQ X g μ (fun r ν => zE X g l d bc bs y (pc + 3) ls (r.toList ++ rest) ν Q) (as.map (zrv X)).toArray) (zA X)) (hrest : ∀ v, v ∈ rest → v ∈ st) : zE X g l d (mc + bc) (ms + bs) y pc ls st μ Q := by
  intro p e R s m args below meth c H locs la cells slots hE hR hS hM hL hst T hT Xs
  obtain ⟨v, st₀, t, T', L, h0, X', hLo, e1, e2, ⟨⟨r, ν, hv, hok, hz, hRv, hext⟩, hz1, hk1⟩, stp⟩ := hC p e R s m args below meth c H locs la cells slots hE hR hS hM hL hst T hT Xs
  rw [h0] at hz1 hk1
  have hv' : v = zro X r := by cases hv; rfl
  subst hv'
  have hS' : va_S (zA X) s.heap T'.heap (locs ++ L) := by
    refine ⟨Nat.le_trans hS.1 (by rw [e1]; exact hz1), fun q h1 h2 => by rw [e1, hk1 q (Nat.lt_of_lt_of_le h1 hS.1) h2]; exact hS.2.1 q h1 h2, fun q hq => ?_⟩
    rcases List.mem_append.mp hq with h | h
    · exact hS.2.2 q h
    · exact hLo q h
  have hW := zW_ext hext <| hz p e R s m args below meth c T'.heap (locs ++ L) la (cells + mc) (slots + ms) hE ⟨hR.1, hR.2.1, by have := hR.2.2.1; omega, by have := hR.2.2.2; omega⟩ hS' (by rw [e1]; exact hRv) ⟨hL.1, hL.2.1, fun j w hj => ⟨(hL.2.2 j w hj).1, (hL.2.2 j w hj).2.ext hext⟩⟩ (fun w hw => by
    rcases List.mem_append.mp hw with h | h
    · exact hok w (by cases r with
        | none => simp at h
        | some x => simp at h; rw [h])
    · exact (hst w (hrest w h)).ext hext)
  obtain ⟨t2, a1, b1⟩ := hW T' rfl X'
  refine ⟨t2, stp t2 ?_, b1⟩
  have e3 : (r.toList ++ rest).map (zrv X) = (zro X r).toList ++ rest.map (zrv X) := by
    rw [List.map_append]
    cases r <;> rfl
  rw [e3] at a1
  exact a1
theorem zE_callv {n t L : Nat} {b : Int} (hd : zI y.2.1 pc (.invokevirtual n) 3 pc') (hm : zMv y.1.cls n q) (hst : st = as.reverse ++ (t + 2, L, b) :: rest) (ht : t < 12) (hc : q.1.cls = zC t) (hn : zNp q as.length) (hdd : d' + 1 ≤ d) (hw : (rest.map fun v => if v.1 = 1 then 2 else 1).sum ≤ 8)
    (k : zC' X g l d' mc ms q ((t + 2, L, b) :: as) μ (fun r ν => zE X g l d bc bs y pc' ls (r.toList ++ rest) ν Q)) : zE X g l d (mc + bc) (ms + bs) y pc ls st μ Q := by
  obtain ⟨hd, rfl⟩ := hd
  subst hst
  obtain ⟨⟨hl, hco, hini, hcl, hmx⟩, hinst, hsel⟩ := hm
  refine zE_back (as := (t + 2, L, b) :: as) (rest := rest) (n := n) (fun p e R s m args below meth c H locs la cells slots hE hR hS hM hL hst => ?_) (fun v hv => List.mem_append_right _ (List.mem_cons_of_mem _ hv))
  have hK : zKn X s := hE.2.2.2.2.2.2.2.2.1
  have hb : zok μ (t + 2, L, b) := hst _ (List.mem_append_right _ List.mem_cons_self)
  obtain ⟨kk, rfl, k1, k2, k3, k4, k5, k6, k7⟩ := hM.cell hb (by omega)
  have e1 : zrv X (t + 2, L, (kk : Int)) = .ref (X.1 + kk) := by
    rw [zrv_ref (by omega), zad_new (by omega)]
  unfold zat at k6
  rw [if_pos ht] at k6
  obtain ⟨cell, q1, q2, q3, -⟩ := k6
  have hrecv : ∃ cellB : Cell, H[X.1 + kk]? = some cellB ∧ cellB.vm.isStatics = false ∧ s.vm.findClass q.1.cls = some cellB.cls := ⟨cell, q1, by rw [q3]; rfl, by rw [q2, hc]; exact (hK.2.1.1 t _ (zcl_at t ht)).2.1⟩
  have hR2 := hR.2.1
  have hR1 := hR.1
  have hM0 := k { frames := d', cells := mc, slots := ms, locals := 64 * d' } (Nat.le_refl _) (Nat.le_refl _) rfl rfl
  have hws : ∀ w ∈ [Cond.code q.1 q.2.1 q.2.2.1 q.2.2.2], ∀ (a' : Array Value) (U : State), s.WarmedH U.vm → w.before a' U = true := fun w hw a' U hW => by
    rw [List.mem_singleton.mp hw]
    exact (hK.warm hW).word hco rfl rfl
  have hpre : PreV s H q.1.cls (X.1 + kk) (va_Pc (((t + 2, L, (kk : Int)) :: as).map (zrv X)) (fun U => (∀ v ∈ (t + 2, L, (kk : Int)) :: as, zok μ v) ∧ X.1 ≤ U.heap.size ∧ zKn X U ∧ zOl X U U.heap ∧ zR X g μ U.heap)) (as.map (zrv X)) := by
    refine ⟨zPc_blind, hrecv, fun U hU hW => ⟨by rw [List.map_cons, e1], fun v hv => ?_, ?_, hK.warm hW, ?_, by rw [hU]; exact hM⟩⟩
    · rcases List.mem_cons.mp hv with rfl | h
      · exact hb
      · exact hst v (List.mem_append_left _ (List.mem_reverse.mpr h))
    · rw [hU]; exact Nat.le_trans hE.2.2.2.2.2.2.2.1 hS.1
    · rw [hU]; exact hE.2.2.2.2.2.2.2.2.2.move hW.alike hS.2.1
  have hstk : (as.reverse ++ (t + 2, L, (kk : Int)) :: rest).map (zrv X) = (as.map (zrv X)).reverse ++ .ref (X.1 + kk) :: rest.map (zrv X) := by
    rw [List.map_append, List.map_cons, e1, List.map_reverse]
  have hroom : 2 * (F0 m pc la ((as.reverse ++ (t + 2, L, (kk : Int)) :: rest).map (zrv X))).monitorRoom + ((rest.map (zrv X)).map fun v => v.category).sum ≤ 8 := by
    refine lv_room (m := m) (pc := pc) (ls := la) (rest := (as.reverse ++ (t + 2, L, (kk : Int)) :: rest).map (zrv X)) ?_
    rw [List.map_map]
    refine Nat.le_trans (Nat.le_of_eq ?_) hw
    congr 1
    exact List.map_congr_left fun v _ => zrv_cat v
  have hfr : (d' + 1 ≤ R.frames) ∧ 8 + (q.2.2.1 + 11) + 64 * d' ≤ R.locals := ⟨by omega, by omega⟩
  have hbud : cells + mc ≤ R.cells ∧ slots + ms ≤ R.slots := ⟨by have := hR.2.2.1; omega, by have := hR.2.2.2; omega⟩
  have hea : (Value.ref (X.1 + kk) :: as.map (zrv X)).toArray = (((t + 2, L, (kk : Int)) :: as).map (zrv X)).toArray := by rw [List.map_cons, e1]
  rcases hl with hl | ⟨h, hl⟩
  · have := va_runV (p := p) (l := l) (e := e) (R := R) (s := s) (m := m) (args := args) (below := below) (meth := meth) (c := c) (H := H) (locs := locs) (cells := cells) (slots := slots) (Ts := []) (own := y.1.cls) (g := F0 m pc la ((as.reverse ++ (t + 2, L, (kk : Int)) :: rest).map (zrv X))) (rest := rest.map (zrv X)) (index := n) (n := (as.map (zrv X)).length) ⟨hE.1, hE.2.1, hE.2.2.2.1, hE.2.2.2.2.1, fun w h => absurd h List.not_mem_nil⟩ hM0
      ⟨⟨rfl, rfl, hfr.1, hfr.2, hws, List.mem_singleton.mpr rfl, hK.word hco rfl rfl, hK.word hini rfl rfl, hcl, by rw [List.length_map]; exact hn.use, hK.word hl rfl rfl⟩, hK.word hinst rfl rfl, hK.word hsel rfl rfl⟩ hpre rfl rfl hL.1 hstk hroom hd hbud
    rw [hea] at this
    exact this
  · have := va_runVN (p := p) (l := l) (e := e) (R := R) (s := s) (m := m) (args := args) (below := below) (meth := meth) (c := c) (H := H) (locs := locs) (cells := cells) (slots := slots) (Ts := []) (own := y.1.cls) (g := F0 m pc la ((as.reverse ++ (t + 2, L, (kk : Int)) :: rest).map (zrv X))) (rest := rest.map (zrv X)) (index := n) (n := (as.map (zrv X)).length) ⟨hE.1, hE.2.1, hE.2.2.2.1, hE.2.2.2.2.1, fun w h => absurd h List.not_mem_nil⟩ hM0
      ⟨⟨⟨rfl, rfl, hfr.1, hfr.2, hws, List.mem_singleton.mpr rfl⟩, hK.word hco rfl rfl, hK.word hini rfl rfl, hcl, by rw [List.length_map]; exact hn.use, hK.word hl rfl rfl⟩, hK.word hinst rfl rfl, hK.word hsel rfl rfl⟩ hpre rfl rfl hL.1 hstk hroom hd hbud
    rw [hea] at this
    exact this
end

section
variable {X : zX} {g : Bool} {l : Launch} {d d' bc bs mc ms : Nat} {y q : zMt} {pc pc' : Nat} {ls ls' : List (Option zV)} {st st' rest as : List zV} {μ : zM} {Q : Option zV → zM → Prop}
theorem zE_calls {n : Nat} (hd : zI y.2.1 pc (.invokestatic n) 3 pc') (hm : zMs y.1.cls n q) (hst : st = as.reverse ++ rest) (hn : zNp q as.length) (hdd : d' + 1 ≤ d) (hw : (rest.map fun v => if v.1 = 1 then 2 else 1).sum ≤ 8)
    (k : zC' X g l d' mc ms q as μ (fun r ν => zE X g l d bc bs y pc' ls (r.toList ++ rest) ν Q)) : zE X g l d (mc + bc) (ms + bs) y pc ls st μ Q := by
  obtain ⟨hd, rfl⟩ := hd
  subst hst
  obtain ⟨⟨hl, hco, hini, hcl, hmx⟩, hstat⟩ := hm
  refine zE_back (as := as) (rest := rest) (n := n) (fun p e R s m args below meth c H locs la cells slots hE hR hS hM hL hst => ?_) (fun v hv => List.mem_append_right _ hv)
  have hK : zKn X s := hE.2.2.2.2.2.2.2.2.1
  have hR2 := hR.2.1
  have hR1 := hR.1
  have hM0 := k { frames := d', cells := mc, slots := ms, locals := 64 * d' } (Nat.le_refl _) (Nat.le_refl _) rfl rfl
  have hws : ∀ w ∈ [Cond.code q.1 q.2.1 q.2.2.1 q.2.2.2], ∀ (a' : Array Value) (U : State), s.WarmedH U.vm → w.before a' U = true := fun w hw a' U hW => by
    rw [List.mem_singleton.mp hw]
    exact (hK.warm hW).word hco rfl rfl
  have hpre : PreS s H (va_Pc (as.map (zrv X)) (fun U => (∀ v ∈ as, zok μ v) ∧ X.1 ≤ U.heap.size ∧ zKn X U ∧ zOl X U U.heap ∧ zR X g μ U.heap)) (as.map (zrv X)) := by
    refine ⟨zPc_blind, fun U hU hW => ⟨rfl, fun v hv => hst v (List.mem_append_left _ (List.mem_reverse.mpr hv)), ?_, hK.warm hW, ?_, by rw [hU]; exact hM⟩⟩
    · rw [hU]; exact Nat.le_trans hE.2.2.2.2.2.2.2.1 hS.1
    · rw [hU]; exact hE.2.2.2.2.2.2.2.2.2.move hW.alike hS.2.1
  have hstk : (as.reverse ++ rest).map (zrv X) = (as.map (zrv X)).reverse ++ rest.map (zrv X) := by
    rw [List.map_append, List.map_reverse]
  have hroom : 2 * (F0 m pc la ((as.reverse ++ rest).map (zrv X))).monitorRoom + ((rest.map (zrv X)).map fun v => v.category).sum ≤ 8 := by
    refine lv_room (m := m) (pc := pc) (ls := la) (rest := (as.reverse ++ rest).map (zrv X)) ?_
    rw [List.map_map]
    refine Nat.le_trans (Nat.le_of_eq ?_) hw
    congr 1
    exact List.map_congr_left fun v _ => zrv_cat v
  have hfr : (d' + 1 ≤ R.frames) ∧ 8 + (q.2.2.1 + 11) + 64 * d' ≤ R.locals := ⟨by omega, by omega⟩
  have hbud : cells + mc ≤ R.cells ∧ slots + ms ≤ R.slots := ⟨by have := hR.2.2.1; omega, by have := hR.2.2.2; omega⟩
  rcases hl with hl | ⟨h, hl⟩
  · exact va_runS (p := p) (l := l) (e := e) (R := R) (s := s) (m := m) (args := args) (below := below) (meth := meth) (c := c) (H := H) (locs := locs) (cells := cells) (slots := slots) (Ts := []) (own := y.1.cls) (g := F0 m pc la ((as.reverse ++ rest).map (zrv X))) (rest := rest.map (zrv X)) (index := n) (n := (as.map (zrv X)).length) ⟨hE.1, hE.2.1, hE.2.2.2.1, hE.2.2.2.2.1, fun w h => absurd h List.not_mem_nil⟩ hM0
      ⟨⟨rfl, rfl, hfr.1, hfr.2, hws, List.mem_singleton.mpr rfl, hK.word hco rfl rfl, hK.word hini rfl rfl, hcl, by rw [List.length_map]; exact hn.use, hK.word hl rfl rfl⟩, hK.word hstat rfl rfl⟩ hpre rfl rfl hL.1 hstk hroom hd hbud
  · exact va_runSN (p := p) (l := l) (e := e) (R := R) (s := s) (m := m) (args := args) (below := below) (meth := meth) (c := c) (H := H) (locs := locs) (cells := cells) (slots := slots) (Ts := []) (own := y.1.cls) (g := F0 m pc la ((as.reverse ++ rest).map (zrv X))) (rest := rest.map (zrv X)) (index := n) (n := (as.map (zrv X)).length) ⟨hE.1, hE.2.1, hE.2.2.2.1, hE.2.2.2.2.1, fun w h => absurd h List.not_mem_nil⟩ hM0
      ⟨⟨⟨rfl, rfl, hfr.1, hfr.2, hws, List.mem_singleton.mpr rfl⟩, hK.word hco rfl rfl, hK.word hini rfl rfl, hcl, by rw [List.length_map]; exact hn.use, hK.word hl rfl rfl⟩, hK.word hstat rfl rfl, trivial⟩ hpre rfl rfl hL.1 hstk hroom hd hbud
theorem zE_calli {n t L : Nat} {b : Int} (hd : zI y.2.1 pc (.invokespecial n) 3 pc') (hm : zMi y.1.cls n q) (hst : st = as.reverse ++ (t + 2, L, b) :: rest) (ht : t < 12) (hc : q.1.cls = zC t) (hn : zNp q as.length) (hdd : d' + 1 ≤ d) (hw : (rest.map fun v => if v.1 = 1 then 2 else 1).sum ≤ 8)
    (k : zC' X g l d' mc ms q ((t + 2, L, b) :: as) μ (fun r ν => zE X g l d bc bs y pc' ls (r.toList ++ rest) ν Q)) : zE X g l d (mc + bc) (ms + bs) y pc ls st μ Q := by
  obtain ⟨hd, rfl⟩ := hd
  subst hst
  obtain ⟨⟨hl, hco, hini, hcl, hmx⟩, hinst, hin, hrn⟩ := hm
  refine zE_back (as := (t + 2, L, b) :: as) (rest := rest) (n := n) (fun p e R s m args below meth c H locs la cells slots hE hR hS hM hL hst => ?_) (fun v hv => List.mem_append_right _ (List.mem_cons_of_mem _ hv))
  have hK : zKn X s := hE.2.2.2.2.2.2.2.2.1
  have hb : zok μ (t + 2, L, b) := hst _ (List.mem_append_right _ List.mem_cons_self)
  obtain ⟨kk, rfl, k1, k2, k3, k4, k5, k6, k7⟩ := hM.cell hb (by omega)
  have e1 : zrv X (t + 2, L, (kk : Int)) = .ref (X.1 + kk) := by
    rw [zrv_ref (by omega), zad_new (by omega)]
  have hR2 := hR.2.1
  have hR1 := hR.1
  have hM0 := k { frames := d', cells := mc, slots := ms, locals := 64 * d' } (Nat.le_refl _) (Nat.le_refl _) rfl rfl
  have hws : ∀ w ∈ [Cond.code q.1 q.2.1 q.2.2.1 q.2.2.2], ∀ (a' : Array Value) (U : State), s.WarmedH U.vm → w.before a' U = true := fun w hw a' U hW => by
    rw [List.mem_singleton.mp hw]
    exact (hK.warm hW).word hco rfl rfl
  have hpre : PreS s H (va_Pc (((t + 2, L, (kk : Int)) :: as).map (zrv X)) (fun U => (∀ v ∈ (t + 2, L, (kk : Int)) :: as, zok μ v) ∧ X.1 ≤ U.heap.size ∧ zKn X U ∧ zOl X U U.heap ∧ zR X g μ U.heap)) (.ref (X.1 + kk) :: as.map (zrv X)) := by
    refine ⟨zPc_blind, fun U hU hW => ⟨by rw [List.map_cons, e1], fun v hv => ?_, ?_, hK.warm hW, ?_, by rw [hU]; exact hM⟩⟩
    · rcases List.mem_cons.mp hv with rfl | h
      · exact hb
      · exact hst v (List.mem_append_left _ (List.mem_reverse.mpr h))
    · rw [hU]; exact Nat.le_trans hE.2.2.2.2.2.2.2.1 hS.1
    · rw [hU]; exact hE.2.2.2.2.2.2.2.2.2.move hW.alike hS.2.1
  have hstk : (as.reverse ++ (t + 2, L, (kk : Int)) :: rest).map (zrv X) = (as.map (zrv X)).reverse ++ .ref (X.1 + kk) :: rest.map (zrv X) := by
    rw [List.map_append, List.map_cons, e1, List.map_reverse]
  have hroom : 2 * (F0 m pc la ((as.reverse ++ (t + 2, L, (kk : Int)) :: rest).map (zrv X))).monitorRoom + ((rest.map (zrv X)).map fun v => v.category).sum ≤ 8 := by
    refine lv_room (m := m) (pc := pc) (ls := la) (rest := (as.reverse ++ (t + 2, L, (kk : Int)) :: rest).map (zrv X)) ?_
    rw [List.map_map]
    refine Nat.le_trans (Nat.le_of_eq ?_) hw
    congr 1
    exact List.map_congr_left fun v _ => zrv_cat v
  have hfr : (d' + 1 ≤ R.frames) ∧ 8 + (q.2.2.1 + 11) + 64 * d' ≤ R.locals := ⟨by omega, by omega⟩
  have hbud : cells + mc ≤ R.cells ∧ slots + ms ≤ R.slots := ⟨by have := hR.2.2.1; omega, by have := hR.2.2.2; omega⟩
  have hea : (Value.ref (X.1 + kk) :: as.map (zrv X)).toArray = (((t + 2, L, (kk : Int)) :: as).map (zrv X)).toArray := by rw [List.map_cons, e1]
  rcases hl with hl | ⟨h, hl⟩
  · have := va_runI (p := p) (l := l) (e := e) (R := R) (s := s) (m := m) (args := args) (below := below) (meth := meth) (c := c) (H := H) (locs := locs) (cells := cells) (slots := slots) (Ts := []) (own := y.1.cls) (g := F0 m pc la ((as.reverse ++ (t + 2, L, (kk : Int)) :: rest).map (zrv X))) (rest := rest.map (zrv X)) (index := n) (n := (as.map (zrv X)).length) ⟨hE.1, hE.2.1, hE.2.2.2.1, hE.2.2.2.2.1, fun w h => absurd h List.not_mem_nil⟩ hM0
      ⟨⟨rfl, rfl, hfr.1, hfr.2, hws, List.mem_singleton.mpr (by rw [hrn]), (by have := hK.word hco rfl rfl (A := args); rw [hrn] at this; exact this), hK.word hini rfl rfl, hcl, by rw [List.length_map]; exact hn.use, hK.word hl rfl rfl⟩, hin, hK.word hinst rfl rfl⟩ hpre rfl rfl hL.1 hstk hroom hd hbud
    rw [hea] at this
    exact this
  · have := va_runIN (p := p) (l := l) (e := e) (R := R) (s := s) (m := m) (args := args) (below := below) (meth := meth) (c := c) (H := H) (locs := locs) (cells := cells) (slots := slots) (Ts := []) (own := y.1.cls) (g := F0 m pc la ((as.reverse ++ (t + 2, L, (kk : Int)) :: rest).map (zrv X))) (rest := rest.map (zrv X)) (index := n) (n := (as.map (zrv X)).length) ⟨hE.1, hE.2.1, hE.2.2.2.1, hE.2.2.2.2.1, fun w h => absurd h List.not_mem_nil⟩ hM0
      ⟨⟨⟨rfl, rfl, hfr.1, hfr.2, hws, List.mem_singleton.mpr (by rw [hrn])⟩, (by have := hK.word hco rfl rfl (A := args); rw [hrn] at this; exact this), hK.word hini rfl rfl, hcl, by rw [List.length_map]; exact hn.use, hK.word hl rfl rfl⟩, hin, hK.word hinst rfl rfl⟩ hpre rfl rfl hL.1 hstk hroom hd hbud
    rw [hea] at this
    exact this
theorem zE_callS {n j : Nat} (hd : zI y.2.1 pc (.invokevirtual n) 3 pc') (hm : zMv y.1.cls n q) (hst : st = as.reverse ++ (33, j, 10 + (j : Int)) :: rest) (hj : j < 18) (hc : q.1.cls = "java/lang/String") (hn : zNp q as.length) (hdd : d' + 1 ≤ d) (hw : (rest.map fun v => if v.1 = 1 then 2 else 1).sum ≤ 8)
    (k : zC' X g l d' mc ms q ((33, j, 10 + (j : Int)) :: as) μ (fun r ν => zE X g l d bc bs y pc' ls (r.toList ++ rest) ν Q)) : zE X g l d (mc + bc) (ms + bs) y pc ls st μ Q := by
  obtain ⟨hd, rfl⟩ := hd
  subst hst
  obtain ⟨⟨hl, hco, hini, hcl, hmx⟩, hinst, hsel⟩ := hm
  refine zE_back (as := (33, j, 10 + (j : Int)) :: as) (rest := rest) (n := n) (fun p e R s m args below meth c H locs la cells slots hE hR hS hM hL hst => ?_) (fun v hv => List.mem_append_right _ (List.mem_cons_of_mem _ hv))
  have hK : zKn X s := hE.2.2.2.2.2.2.2.2.1
  have hb : zok μ (33, j, 10 + (j : Int)) := hst _ (List.mem_append_right _ List.mem_cons_self)
  have e1 : zrv X (33, j, 10 + (j : Int)) = .ref (X.2.1 (10 + j)) := by
    show (if (10 + (j : Int)) < 0 then Value.null else .ref (zad X 33 (10 + (j : Int)))) = _
    rw [if_neg (by omega)]
    simp [zad, show (10 + (j : Int)).toNat = 10 + j by omega]
  have hrecv : ∃ cellB : Cell, H[X.2.1 (10 + j)]? = some cellB ∧ cellB.vm.isStatics = false ∧ s.vm.findClass q.1.cls = some cellB.cls := by rw [hc]; exact vk_recv (adK := fun j => X.2.1 (10 + j)) (i := j) hE.2.2.2.2.2.2.2.2.2.1 hj hS
  have hR2 := hR.2.1
  have hR1 := hR.1
  have hM0 := k { frames := d', cells := mc, slots := ms, locals := 64 * d' } (Nat.le_refl _) (Nat.le_refl _) rfl rfl
  have hws : ∀ w ∈ [Cond.code q.1 q.2.1 q.2.2.1 q.2.2.2], ∀ (a' : Array Value) (U : State), s.WarmedH U.vm → w.before a' U = true := fun w hw a' U hW => by
    rw [List.mem_singleton.mp hw]
    exact (hK.warm hW).word hco rfl rfl
  have hpre : PreV s H q.1.cls (X.2.1 (10 + j)) (va_Pc (((33, j, 10 + (j : Int)) :: as).map (zrv X)) (fun U => (∀ v ∈ (33, j, 10 + (j : Int)) :: as, zok μ v) ∧ X.1 ≤ U.heap.size ∧ zKn X U ∧ zOl X U U.heap ∧ zR X g μ U.heap)) (as.map (zrv X)) := by
    refine ⟨zPc_blind, hrecv, fun U hU hW => ⟨by rw [List.map_cons, e1], fun v hv => ?_, ?_, hK.warm hW, ?_, by rw [hU]; exact hM⟩⟩
    · rcases List.mem_cons.mp hv with rfl | h
      · exact hb
      · exact hst v (List.mem_append_left _ (List.mem_reverse.mpr h))
    · rw [hU]; exact Nat.le_trans hE.2.2.2.2.2.2.2.1 hS.1
    · rw [hU]; exact hE.2.2.2.2.2.2.2.2.2.move hW.alike hS.2.1
  have hstk : (as.reverse ++ (33, j, 10 + (j : Int)) :: rest).map (zrv X) = (as.map (zrv X)).reverse ++ .ref (X.2.1 (10 + j)) :: rest.map (zrv X) := by
    rw [List.map_append, List.map_cons, e1, List.map_reverse]
  have hroom : 2 * (F0 m pc la ((as.reverse ++ (33, j, 10 + (j : Int)) :: rest).map (zrv X))).monitorRoom + ((rest.map (zrv X)).map fun v => v.category).sum ≤ 8 := by
    refine lv_room (m := m) (pc := pc) (ls := la) (rest := (as.reverse ++ (33, j, 10 + (j : Int)) :: rest).map (zrv X)) ?_
    rw [List.map_map]
    refine Nat.le_trans (Nat.le_of_eq ?_) hw
    congr 1
    exact List.map_congr_left fun v _ => zrv_cat v
  have hfr : (d' + 1 ≤ R.frames) ∧ 8 + (q.2.2.1 + 11) + 64 * d' ≤ R.locals := ⟨by omega, by omega⟩
  have hbud : cells + mc ≤ R.cells ∧ slots + ms ≤ R.slots := ⟨by have := hR.2.2.1; omega, by have := hR.2.2.2; omega⟩
  have hea : (Value.ref (X.2.1 (10 + j)) :: as.map (zrv X)).toArray = (((33, j, 10 + (j : Int)) :: as).map (zrv X)).toArray := by rw [List.map_cons, e1]
  rcases hl with hl | ⟨h, hl⟩
  · have := va_runV (p := p) (l := l) (e := e) (R := R) (s := s) (m := m) (args := args) (below := below) (meth := meth) (c := c) (H := H) (locs := locs) (cells := cells) (slots := slots) (Ts := []) (own := y.1.cls) (g := F0 m pc la ((as.reverse ++ (33, j, 10 + (j : Int)) :: rest).map (zrv X))) (rest := rest.map (zrv X)) (index := n) (n := (as.map (zrv X)).length) ⟨hE.1, hE.2.1, hE.2.2.2.1, hE.2.2.2.2.1, fun w h => absurd h List.not_mem_nil⟩ hM0
      ⟨⟨rfl, rfl, hfr.1, hfr.2, hws, List.mem_singleton.mpr rfl, hK.word hco rfl rfl, hK.word hini rfl rfl, hcl, by rw [List.length_map]; exact hn.use, hK.word hl rfl rfl⟩, hK.word hinst rfl rfl, hK.word hsel rfl rfl⟩ hpre rfl rfl hL.1 hstk hroom hd hbud
    rw [hea] at this
    exact this
  · have := va_runVN (p := p) (l := l) (e := e) (R := R) (s := s) (m := m) (args := args) (below := below) (meth := meth) (c := c) (H := H) (locs := locs) (cells := cells) (slots := slots) (Ts := []) (own := y.1.cls) (g := F0 m pc la ((as.reverse ++ (33, j, 10 + (j : Int)) :: rest).map (zrv X))) (rest := rest.map (zrv X)) (index := n) (n := (as.map (zrv X)).length) ⟨hE.1, hE.2.1, hE.2.2.2.1, hE.2.2.2.2.1, fun w h => absurd h List.not_mem_nil⟩ hM0
      ⟨⟨⟨rfl, rfl, hfr.1, hfr.2, hws, List.mem_singleton.mpr rfl⟩, hK.word hco rfl rfl, hK.word hini rfl rfl, hcl, by rw [List.length_map]; exact hn.use, hK.word hl rfl rfl⟩, hK.word hinst rfl rfl, hK.word hsel rfl rfl⟩ hpre rfl rfl hL.1 hstk hroom hd hbud
    rw [hea] at this
    exact this
end

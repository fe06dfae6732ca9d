/-- field i of class t, as class own's pool entry n names it -/
def zFl (own : String) (n t i : Nat) : Prop := i < zN t ∧ t < 12 ∧ (Cond.fieldLink own n (zC t) (zT t i).2.1 (zT t i).2.2.1 ∈ lw_tbl ∨ ∃ h : String, Cond.fieldLinkNest own n (zC t) (zT t i).2.1 (zT t i).2.2.1 h ∈ lw_tbl)
theorem zKn.lays {X : zX} {U : State} (h : zKn X U) {t : Nat} (ht : t < 12) {args : Array Value} : ∀ w ∈ u_ws (zC t) (zT t) (zN t), w.before args U = true := by
  intro w hw
  have hm := zT_w t ht w hw
  obtain ⟨k, -, rfl⟩ := List.mem_map.mp hw
  unfold u_lay at hm ⊢
  split
  · rw [if_pos ‹_›] at hm
    exact h.word hm rfl rfl
  · rw [if_neg ‹_›] at hm
    exact h.word hm rfl rfl
section
variable {X : zX} {g : Bool} {l : Launch} {d bc bs : Nat} {y : zMt} {pc pc' : Nat} {ls ls' : List (Option zV)} {st st' : List zV} {μ : zM} {Q : Option zV → zM → Prop}
theorem zad_new {t : Nat} {k : Nat} (ht : t < 30) : zad X (t + 2) (k : Int) = X.1 + k := by
  simp [zad, show t + 2 < 32 by omega]
theorem zE_getf {t L i n : Nat} {a : Int} {k0 L0 : Nat} (hd : zI y.2.1 pc (.getfield n) 3 pc') (hf : zFl y.1.cls n t i) (hk : zsk t L i = (k0, L0)) (k : zE X g l d bc bs y pc' ls ((k0, L0, μ a i) :: st) μ Q) : zE X g l d bc bs y pc ls ((t + 2, L, a) :: st) μ Q := by
  obtain ⟨hd, rfl⟩ := hd
  obtain ⟨hi, ht, hl⟩ := hf
  intro p e R s m args below meth c H locs la cells slots hE hR hS hM hL hst
  obtain ⟨kk, rfl, k1, k2, k3, k4, k5, k6, k7⟩ := hM.cell (zcons hst).1 (by omega)
  have h7 := k7 i (by unfold zsn; rw [if_pos ht]; exact hi)
  have hK : zKn X s := hE.2.2.2.2.2.2.2.2.1
  have e1 : zrv X (t + 2, L, (kk : Int)) = .ref (X.1 + kk) := by
    rw [zrv_ref (by omega), zad_new (by omega)]
  have hcont := k p e R s m args below meth c H locs la cells slots hE hR hS hM hL (zmk (by rw [hk] at h7; exact h7) (zcons hst).2)
  rw [List.map_cons, e1]
  unfold zat at k6
  rw [if_pos ht] at k6
  obtain ⟨cell, q1, q2, q3, q4⟩ := k6
  obtain ⟨hSl, hfc, kC, hkC, hkind⟩ := hK.2.1.1 t _ (zcl_at t ht)
  obtain ⟨cf, kf, fi, f, hfi, hsl⟩ := hSl i hi
  have hst0 := (u_facts hfc hkC (u_lays (hK.lays ht (args := args)) (fun _ h => h) hi) hfi).1
  have hfi' : s.fieldFound? (zC t) (zT t i).2.1 (zT t i).2.2.1 = some (cf, kf, fi, f) := by
    have h9 := hfi
    rw [zT_o t ht i hi] at h9
    exact h9
  have hv : cell.slots[f.slot]? = some (zrv X (k0, L0, μ kk i)) := by
    rw [hsl, q4 i hi]
    unfold zsv
    rw [hk]
  rcases hl with hl | ⟨h, hl⟩
  · exact W.getf hE.1 hE.2.1 hE.2.2.2.2.1 (hK.word hl rfl rfl) hfi' hst0 q1 (by rw [q3]; exact fun h => by cases h) hv rfl rfl hd hcont
  · exact va_Wgetf hE.1 hE.2.1 hE.2.2.2.2.1 (hK.word hl rfl rfl) hfi' hst0 q1 (by rw [q3]; exact fun h => by cases h) hv rfl rfl hd hcont
/-- a field that may be null, known not to be -/
theorem zE_nn {t L : Nat} {a : Int} (h0 : 0 ≤ a) (k : zE X g l d bc bs y pc ls ((t + 2, L, a) :: st) μ Q) (ht : t < 30 := by decide) : zE X g l d bc bs y pc ls ((100 + t, L, a) :: st) μ Q := by
  intro p e R s m args below meth c H locs la cells slots hE hR hS hM hL hst
  have h1 := (zcons hst).1.2.2.2.2 (by simp) (by show 100 + t < 132; omega) h0
  have hk : zok μ (t + 2, L, a) := ⟨fun h => by simp at h, fun h => by simp at h, fun _ _ => h0, fun _ _ => ⟨h1.1, by rw [h1.2.1]; simp, h1.2.2⟩, fun h => by simp at h; omega⟩
  have e1 : zrv X (100 + t, L, a) = zrv X (t + 2, L, a) := by
    rw [zrv_ref h0, show 100 + t = (98 + t) + 2 by omega, zrv_ref h0]
    simp [zad, show t + 2 < 32 by omega, show 98 + t + 2 < 132 by omega]
  have := k p e R s m args below meth c H locs la cells slots hE hR hS hM hL (zmk hk (zcons hst).2)
  rw [List.map_cons] at this ⊢
  rw [e1]
  exact this
/-- a final reference, once all constructors are through -/
theorem zE_getr {t L i n : Nat} {a : Int} {t' L' : Nat} {o : Int} (hd : zI y.2.1 pc (.getfield n) 3 pc') (hf : zFl y.1.cls n t i) (hk : zsk t L i = (100 + t', L')) (ho : zof t i = some o) (h0 : 0 ≤ o) (ht' : t' < 30) (k : zE X true l d bc bs y pc' ls ((t' + 2, L', a + o) :: st) μ Q) : zE X true l d bc bs y pc ls ((t + 2, L, a) :: st) μ Q := by
  intro p e R s m args below meth c H locs la cells slots hE hR hS hM hL hst
  obtain ⟨kk, rfl, k1, k2, k3, k4, k5, k6, k7⟩ := hM.cell (zcons hst).1 (by have := hf.2.1; omega)
  have hr := (hM.2.2.2 rfl kk k1).1 i o (by rw [k2]; exact ho)
  refine zE_getf (g := true) hd hf hk (zE_nn ?_ ?_ ht') p e R s m args below meth c H locs la cells slots hE hR hS hM hL hst
  · rw [hr]; omega
  · rw [hr]; exact k
/-- what a store into a field needs -/
theorem zE_putf {t L i n : Nat} {a : Int} {w : zV} {k0 L0 : Nat} (hd : zI y.2.1 pc (.putfield n) 3 pc') (hf : zFl y.1.cls n t i) (hk : zsk t L i = (k0, L0)) (hw : zok μ w → zok μ (k0, L0, w.2.2)) (hrv : zok μ w → zrv X (k0, L0, w.2.2) = zrv X w) (hfit : zok μ w → narrow (zY t i) (zrv X w) = zrv X w ∧ fits (zY t i) (zrv X w) = true)
    (hg : g = true → zof t i = none ∧ zst t = none) (hfin : (zT t i).2.2.2 = false ∨ ((zT t i).2.2.2 = true ∧ y.1.name = "<init>" ∧ y.1.cls = zC t ∧ Cond.fieldLink y.1.cls n (zC t) (zT t i).2.1 (zT t i).2.2.1 ∈ lw_tbl)) (k : zE X g l d bc bs y pc' ls st (zup μ a i w.2.2) Q) : zE X g l d bc bs y pc ls (w :: (t + 2, L, a) :: st) μ Q := by
  obtain ⟨hd, rfl⟩ := hd
  obtain ⟨hi, ht, hl⟩ := hf
  intro p e R s m args below meth c H locs la cells slots hE hR hS hM hL hst
  have hwk := (zcons hst).1
  have hrest := (zcons (zcons hst).2).2
  obtain ⟨kk, rfl, k1, k2, k3, k4, k5, k6, k7⟩ := hM.cell (zcons (zcons hst).2).1 (by omega)
  have hK : zKn X s := hE.2.2.2.2.2.2.2.2.1
  have e1 : zrv X (t + 2, L, (kk : Int)) = .ref (X.1 + kk) := by
    rw [zrv_ref (by omega), zad_new (by omega)]
  have hsn : i < zsn t L := by unfold zsn; rw [if_pos ht]; exact hi
  have k6' := k6
  unfold zat at k6'
  rw [if_pos ht] at k6'
  obtain ⟨cell, q1, q2, q3, q4⟩ := k6'
  obtain ⟨hSl, hfc, kC, hkC, hkind⟩ := hK.2.1.1 t _ (zcl_at t ht)
  obtain ⟨cf, kf, fi, f, hfi, hsl⟩ := hSl i hi
  have hlays := hK.lays ht (args := args)
  have hst0 := (u_facts hfc hkC (u_lays hlays (fun _ h => h) hi) hfi).1
  have hfi' : s.fieldFound? (zC t) (zT t i).2.1 (zT t i).2.2.1 = some (cf, kf, fi, f) := by
    have h9 := hfi
    rw [zT_o t ht i hi] at h9
    exact h9
  have hap := va_apart (own := y.1.cls) hlays (fun _ h => h) (zY t) (zT_y t ht) (zT_n t ht) hK.2.1 (zcl_at t ht)
  obtain ⟨hn1, hn2⟩ := hfit hwk
  have hlay := hlays _ (u_in_lay hi)
  unfold u_lay at hlay
  rw [List.map_cons, List.map_cons, e1]
  have fin : ∀ (H1 : Heap), H1[X.1 + kk]? = some (cell.setSlot f.slot (zrv X w)) → H1.size = H.size → (∀ q, q ≠ X.1 + kk → H1[q]? = H[q]?) → W p l e R s m args below meth c H1 (locs ++ [⟨X.1 + kk, f.slot⟩]) cells slots (MQ below (zQ X g μ Q) args s R.cells R.slots (zA X)) (F0 m (pc + 3) la (st.map (zrv X))) := by
    intro H1 f1 f2 f3
    have hs1 : va_S (zA X) s.heap H1 (locs ++ [⟨X.1 + kk, f.slot⟩]) := hS.put f2 f3 (by unfold zA; omega)
    have hat : zat X t L (fun j => if j = (i : Int) then w.2.2 else μ kk j) kk H1 := by
      unfold zat
      rw [if_pos ht]
      refine t_OB.to (V := updV (zsv X t L (μ kk)) i (zrv X w)) ⟨_, f1, q2, q3, by rw [hsl]; exact t_set q4 hap hi _⟩ (fun j hj => ?_)
      unfold updV zsv
      by_cases e : j = i
      · subst e
        simp only [if_true]
        rw [hk]
        exact (hrv hwk).symm
      · have : ¬ (j : Int) = (i : Int) := by omega
        simp only [if_neg e, if_neg this]
    have hM1 := hM.store k1 k2 k3 hsn (v := w.2.2) (by rw [hk]; exact hw hwk) hg f2 f3 hat
    refine zW_ext (zext_up (by omega)) <| k p e R s m args below meth c H1 _ la cells slots hE hR hs1 hM1 ⟨hL.1, hL.2.1, fun j v hj => ⟨(hL.2.2 j v hj).1, (zok_up (by omega) v).mpr (hL.2.2 j v hj).2⟩⟩ (fun v hv => (zok_up (by omega) v).mpr (hrest v hv))
  rcases hfin with hfin | ⟨hfin, hin, hcls, hlk⟩
  · rw [if_neg (by rw [hfin]; decide)] at hlay
    have h6 := u_store hfc hkC hkind hlay hfi (zT_y t ht i hi) hn1 hn2
    rcases hl with hl | ⟨h, hl⟩
    · exact W.putK hE.1 hE.2.1 (f := f) ⟨hE.2.2.2.2.1, hK.word hl rfl rfl, ⟨_, _, _, hfi'⟩, hst0⟩ (by rw [q2]; exact h6) q1 q3 (by rw [hsl]; exact k2_hasslot (q4 i hi)) rfl rfl hd fin
    · exact va_WputK hE.1 hE.2.1 (f := f) hE.2.2.2.2.1 (hK.word hl rfl rfl) hfi' hst0 (by rw [q2]; exact h6) q1 q3 (by rw [hsl]; exact k2_hasslot (q4 i hi)) rfl rfl hd fin
  · have h6 := u_fits hfc hkC hkind (u_lays hlays (fun _ h => h) hi) hfi (zT_y t ht i hi) hn1 hn2
    have hcf : m.cls = cf := by
      have h10 : s.vm.findClass (zC t) = some m.cls := by rw [← hcls]; exact hE.2.2.2.2.1
      rw [if_pos hfin] at hlay
      obtain ⟨_, _, c', _, _, _, -, -, hf', -, -, -, hown2, -⟩ := Cond.laysFinal_spec hlay
      have e1 : c' = cf := by have := hfi.symm.trans hf'; simp at this; exact this.1.symm
      rw [zT_o t ht i hi] at hown2
      rw [← e1]; exact Option.some.inj (h10.symm.trans hown2)
    exact W.putFinK hE.1 hE.2.1 hE.2.2.2.2.1 (hK.word hlk rfl rfl) hfi' hst0 hcf (hE.2.2.2.2.2.2.1.trans hin) (by rw [q2]; exact h6) q1 q3 (by rw [hsl]; exact k2_hasslot (q4 i hi)) rfl rfl hd fin
theorem zE_puti {t L i n : Nat} {a v : Int} (hd : zI y.2.1 pc (.putfield n) 3 pc') (hf : zFl y.1.cls n t i) (hk : zsk t L i = (0, 0)) (hy : zY t i = .int) (hg : g = true → zof t i = none ∧ zst t = none) (hfin : (zT t i).2.2.2 = false ∨ ((zT t i).2.2.2 = true ∧ y.1.name = "<init>" ∧ y.1.cls = zC t ∧ Cond.fieldLink y.1.cls n (zC t) (zT t i).2.1 (zT t i).2.2.1 ∈ lw_tbl)) (k : zE X g l d bc bs y pc' ls st (zup μ a i v) Q) : zE X g l d bc bs y pc ls ((0, 0, v) :: (t + 2, L, a) :: st) μ Q :=
  zE_putf hd hf hk (fun h => h) (fun _ => rfl) (fun _ => by rw [hy]; exact ⟨rfl, rfl⟩) hg hfin k
theorem zE_putl {t L i n : Nat} {a v : Int} (hd : zI y.2.1 pc (.putfield n) 3 pc') (hf : zFl y.1.cls n t i) (hk : zsk t L i = (1, 0)) (hy : zY t i = .long) (hg : g = true → zof t i = none ∧ zst t = none) (hfin : (zT t i).2.2.2 = false) (k : zE X g l d bc bs y pc' ls st (zup μ a i v) Q) : zE X g l d bc bs y pc ls ((1, 0, v) :: (t + 2, L, a) :: st) μ Q :=
  zE_putf hd hf hk (fun h => h) (fun _ => rfl) (fun _ => by rw [hy]; exact ⟨rfl, rfl⟩) hg (Or.inl hfin) k
theorem zE_putz {t L i n : Nat} {a v : Int} (hd : zI y.2.1 pc (.putfield n) 3 pc') (hf : zFl y.1.cls n t i) (hk : zsk t L i = (0, 0)) (hy : zY t i = .boolean) (hv : v = 0 ∨ v = 1) (hg : g = true → zof t i = none ∧ zst t = none) (hfin : (zT t i).2.2.2 = false) (k : zE X g l d bc bs y pc' ls st (zup μ a i v) Q) : zE X g l d bc bs y pc ls ((0, 0, v) :: (t + 2, L, a) :: st) μ Q :=
  zE_putf hd hf hk (fun h => h) (fun _ => rfl) (fun _ => by rw [hy]; rcases hv with rfl | rfl <;> exact ⟨rfl, rfl⟩) hg (Or.inl hfin) k
theorem zE_putr {t L i n : Nat} {a v : Int} {t' L' : Nat} (hd : zI y.2.1 pc (.putfield n) 3 pc') (hf : zFl y.1.cls n t i) (hk : zsk t L i = (100 + t', L')) (hy : (∃ c, zY t i = .object c) ∨ ∃ c, zY t i = .array c) (ht' : t' < 30) (hg : g = true → zof t i = none ∧ zst t = none) (hfin : (zT t i).2.2.2 = false ∨ ((zT t i).2.2.2 = true ∧ y.1.name = "<init>" ∧ y.1.cls = zC t ∧ Cond.fieldLink y.1.cls n (zC t) (zT t i).2.1 (zT t i).2.2.1 ∈ lw_tbl)) (k : zE X g l d bc bs y pc' ls st (zup μ a i v) Q) : zE X g l d bc bs y pc ls ((t' + 2, L', v) :: (t + 2, L, a) :: st) μ Q := by
  refine zE_putf hd hf hk (fun h => ?_) (fun h => ?_) (fun h => ?_) hg hfin k
  · have h0 := zok_pos h (by omega)
    have h1 := h.2.2.2.1 (by simp) (by show t' + 2 < 32; omega)
    exact ⟨fun q => by simp at q, fun q => by simp at q; omega, fun q q2 => by simp at q2; omega, fun q q2 => by simp at q2; omega, fun _ _ _ => ⟨h1.1, by rw [h1.2.1]; simp, h1.2.2⟩⟩
  · have h0 := zok_pos h (by omega)
    rw [zrv_ref h0, show 100 + t' = (98 + t') + 2 by omega, zrv_ref h0]
    simp [zad, show t' + 2 < 32 by omega, show 98 + t' + 2 < 132 by omega]
  · have h0 := zok_pos h (by omega)
    rw [zrv_ref h0]
    rcases hy with ⟨c, hy⟩ | ⟨c, hy⟩ <;> rw [hy] <;> exact ⟨rfl, rfl⟩
/-- null into a field that may be null -/
theorem zE_putn {t L i n : Nat} {a v : Int} {t' L' : Nat} (hd : zI y.2.1 pc (.putfield n) 3 pc') (hf : zFl y.1.cls n t i) (hk : zsk t L i = (100 + t', L')) (hy : (∃ c, zY t i = .object c) ∨ ∃ c, zY t i = .array c) (hg : g = true → zof t i = none ∧ zst t = none) (hfin : (zT t i).2.2.2 = false) (k : zE X g l d bc bs y pc' ls st (zup μ a i v) Q) : zE X g l d bc bs y pc ls ((100 + t', L', v) :: (t + 2, L, a) :: st) μ Q := by
  refine zE_putf hd hf hk (fun h => h) (fun h => rfl) (fun h => ?_) hg (Or.inl hfin) k
  have e : zrv X (100 + t', L', v) = .null ∨ ∃ q, zrv X (100 + t', L', v) = .ref q := by
    rw [show 100 + t' = (98 + t') + 2 by omega]
    show (if v < 0 then Value.null else .ref (zad X (98 + t' + 2) v)) = .null ∨ ∃ q, (if v < 0 then Value.null else .ref (zad X (98 + t' + 2) v)) = .ref q
    by_cases h : v < 0
    · exact Or.inl (if_pos h)
    · exact Or.inr ⟨_, if_neg h⟩
  rcases e with e | ⟨q, e⟩ <;> rw [e] <;> rcases hy with ⟨c, hy⟩ | ⟨c, hy⟩ <;> rw [hy] <;> exact ⟨rfl, rfl⟩
end

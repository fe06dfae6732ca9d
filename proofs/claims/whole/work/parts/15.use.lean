def zTok (cc : ByteArray) (tab : List (Nat × Instr × Nat × Nat)) : Bool := tab.all fun e => decide (decode cc e.1 = .ok (e.2.1, e.2.2.1)) && (e.1 + e.2.2.1 == e.2.2.2)
theorem zTb {cc : ByteArray} {tab : List (Nat × Instr × Nat × Nat)} (h : zTok cc tab = true) (j : Nat) {pc n pc' : Nat} {i : Instr} (hj : tab[j]? = some (pc, i, n, pc')) : zI cc pc i n pc' := by
  have h1 := List.all_eq_true.mp h _ (List.mem_of_getElem? hj)
  simp only [Bool.and_eq_true, decide_eq_true_eq, beq_iff_eq] at h1
  exact h1
theorem zt1 (i : Nat) {w : Cond} (h : tables_1[i]? = some w) : w ∈ lw_tbl := List.mem_append_right _ (List.mem_of_getElem? h)
theorem zs1 (i : Nat) {w : Cond} (h : tables_1_1[i]? = some w) : w ∈ lw_tbl := List.mem_append_right _ (List.mem_append_left _ (List.mem_of_getElem? h))
theorem zs2 (i : Nat) {w : Cond} (h : tables_1_2[i]? = some w) : w ∈ lw_tbl := List.mem_append_right _ (List.mem_append_right _ (List.mem_append_left _ (List.mem_of_getElem? h)))
theorem zs3 (i : Nat) {w : Cond} (h : tables_1_3[i]? = some w) : w ∈ lw_tbl := List.mem_append_right _ (List.mem_append_right _ (List.mem_append_right _ (List.mem_append_left _ (List.mem_of_getElem? h))))
theorem zs4 (i : Nat) {w : Cond} (h : tables_1_4[i]? = some w) : w ∈ lw_tbl := List.mem_append_right _ (List.mem_append_right _ (List.mem_append_right _ (List.mem_append_right _ (List.mem_append_left _ (List.mem_of_getElem? h)))))
theorem zs5 (i : Nat) {w : Cond} (h : tables_1_5[i]? = some w) : w ∈ lw_tbl := List.mem_append_right _ (List.mem_append_right _ (List.mem_append_right _ (List.mem_append_right _ (List.mem_append_right _ (List.mem_append_left _ (List.mem_of_getElem? h))))))
theorem zs6 (i : Nat) {w : Cond} (h : tables_1_6[i]? = some w) : w ∈ lw_tbl := List.mem_append_right _ (List.mem_append_right _ (List.mem_append_right _ (List.mem_append_right _ (List.mem_append_right _ (List.mem_append_right _ (List.mem_append_left _ (List.mem_of_getElem? h)))))))
theorem zs7 (i : Nat) {w : Cond} (h : tables_1_7[i]? = some w) : w ∈ lw_tbl := List.mem_append_right _ (List.mem_append_right _ (List.mem_append_right _ (List.mem_append_right _ (List.mem_append_right _ (List.mem_append_right _ (List.mem_append_right _ (List.mem_append_left _ (List.mem_of_getElem? h))))))))
theorem zs8 (i : Nat) {w : Cond} (h : tables_1_8[i]? = some w) : w ∈ lw_tbl := List.mem_append_right _ (List.mem_append_right _ (List.mem_append_right _ (List.mem_append_right _ (List.mem_append_right _ (List.mem_append_right _ (List.mem_append_right _ (List.mem_append_right _ (List.mem_of_getElem? h))))))))
theorem zt0 (i : Nat) {w : Cond} (h : (k2_sels lw_privs)[i]? = some w) : w ∈ lw_tbl := List.mem_append_left _ (List.mem_of_getElem? h)
/-- calls by what they answer -/
def zri (Q : Int → zM → Prop) (r : Option zV) (ν : zM) : Prop := match r with
  | some (0, 0, v) => Q v ν
  | _ => False
def zrl (Q : Int → zM → Prop) (r : Option zV) (ν : zM) : Prop := match r with
  | some (1, 0, v) => Q v ν
  | _ => False
def zrn (Q : zM → Prop) (r : Option zV) (ν : zM) : Prop := match r with
  | none => Q ν
  | some _ => False
theorem zri_of {Q : Int → zM → Prop} {r : Option zV} {ν : zM} (h : zri Q r ν) : ∃ v : Int, r = some (0, 0, v) ∧ Q v ν := by
  unfold zri at h
  split at h
  · exact ⟨_, rfl, h⟩
  · exact h.elim
theorem zrl_of {Q : Int → zM → Prop} {r : Option zV} {ν : zM} (h : zrl Q r ν) : ∃ v : Int, r = some (1, 0, v) ∧ Q v ν := by
  unfold zrl at h
  split at h
  · exact ⟨_, rfl, h⟩
  · exact h.elim
theorem zrn_of {Q : zM → Prop} {r : Option zV} {ν : zM} (h : zrn Q r ν) : r = none ∧ Q ν := by
  unfold zrn at h
  split at h
  · exact ⟨rfl, h⟩
  · exact h.elim
def zCi (X : zX) (g : Bool) (l : Launch) (d bc bs : Nat) (y : zMt) (as : List zV) (μ : zM) (Q : Int → zM → Prop) : Prop := zC' X g l d bc bs y as μ (zri Q)
def zCl (X : zX) (g : Bool) (l : Launch) (d bc bs : Nat) (y : zMt) (as : List zV) (μ : zM) (Q : Int → zM → Prop) : Prop := zC' X g l d bc bs y as μ (zrl Q)
def zCv (X : zX) (g : Bool) (l : Launch) (d bc bs : Nat) (y : zMt) (as : List zV) (μ : zM) (Q : zM → Prop) : Prop := zC' X g l d bc bs y as μ (zrn Q)
def zrr (t L : Nat) (Q : Int → zM → Prop) (r : Option zV) (ν : zM) : Prop := ∃ v : Int, r = some (t + 2, L, v) ∧ Q v ν
def zCr (t L : Nat) (X : zX) (g : Bool) (l : Launch) (d bc bs : Nat) (y : zMt) (as : List zV) (μ : zM) (Q : Int → zM → Prop) : Prop := zC' X g l d bc bs y as μ (zrr t L Q)
section
variable {X : zX} {g : Bool} {l : Launch} {d d' d1 bc bs mc ms : Nat} {y q : zMt} {pc pc' : Nat} {ls ls' : List (Option zV)} {st st' rest as : List zV} {μ : zM} {Q : Option zV → zM → Prop}
theorem zCi_use {Q0 : Int → zM → Prop} (h : ∀ v ν, Q0 v ν → zE X g l d bc bs y pc ls ((0, 0, v) :: rest) ν Q) (k : zCi X g l d1 mc ms q as μ Q0) : zC' X g l d1 mc ms q as μ (fun r ν => zE X g l d bc bs y pc ls (r.toList ++ rest) ν Q) :=
  zC'_mono (fun r ν hq => by obtain ⟨v, rfl, hq⟩ := zri_of hq; exact h v ν hq) k
theorem zCl_use {Q0 : Int → zM → Prop} (h : ∀ v ν, Q0 v ν → zE X g l d bc bs y pc ls ((1, 0, v) :: rest) ν Q) (k : zCl X g l d1 mc ms q as μ Q0) : zC' X g l d1 mc ms q as μ (fun r ν => zE X g l d bc bs y pc ls (r.toList ++ rest) ν Q) :=
  zC'_mono (fun r ν hq => by obtain ⟨v, rfl, hq⟩ := zrl_of hq; exact h v ν hq) k
theorem zCv_use {Q0 : zM → Prop} (h : ∀ ν, Q0 ν → zE X g l d bc bs y pc ls rest ν Q) (k : zCv X g l d1 mc ms q as μ Q0) : zC' X g l d1 mc ms q as μ (fun r ν => zE X g l d bc bs y pc ls (r.toList ++ rest) ν Q) :=
  zC'_mono (fun r ν hq => by obtain ⟨rfl, hq⟩ := zrn_of hq; exact h ν hq) k
theorem zCr_use {t L : Nat} {Q0 : Int → zM → Prop} (h : ∀ v ν, Q0 v ν → zE X g l d bc bs y pc ls ((t + 2, L, v) :: rest) ν Q) (k : zCr t L X g l d1 mc ms q as μ Q0) : zC' X g l d1 mc ms q as μ (fun r ν => zE X g l d bc bs y pc ls (r.toList ++ rest) ν Q) :=
  zC'_mono (fun r ν ⟨v, hr, hq⟩ => by subst hr; exact h v ν hq) k
theorem zCi_mono {Q0 Q1 : Int → zM → Prop} (k : zCi X g l d bc bs y as μ Q0) (h : ∀ v ν, Q0 v ν → Q1 v ν) : zCi X g l d bc bs y as μ Q1 := zC'_mono (fun _ ν hq => by obtain ⟨v, rfl, hq⟩ := zri_of hq; exact h v ν hq) k
theorem zCl_mono {Q0 Q1 : Int → zM → Prop} (k : zCl X g l d bc bs y as μ Q0) (h : ∀ v ν, Q0 v ν → Q1 v ν) : zCl X g l d bc bs y as μ Q1 := zC'_mono (fun _ ν hq => by obtain ⟨v, rfl, hq⟩ := zrl_of hq; exact h v ν hq) k
theorem zCv_mono {Q0 Q1 : zM → Prop} (k : zCv X g l d bc bs y as μ Q0) (h : ∀ ν, Q0 ν → Q1 ν) : zCv X g l d bc bs y as μ Q1 := zC'_mono (fun _ ν hq => by obtain ⟨rfl, hq⟩ := zrn_of hq; exact h ν hq) k
theorem zCr_mono {t L : Nat} {Q0 Q1 : Int → zM → Prop} (k : zCr t L X g l d bc bs y as μ Q0) (h : ∀ v ν, Q0 v ν → Q1 v ν) : zCr t L X g l d bc bs y as μ Q1 := zC'_mono (fun _ ν ⟨v, hr, hq⟩ => ⟨v, hr, h v ν hq⟩) k
theorem zif_t {C : Prop} [Decidable C] {a b : Int} {P : Int → Prop} (c : C) (h : P (if C then a else b)) : P a := by rwa [if_pos c] at h
theorem zif_f {C : Prop} [Decidable C] {a b : Int} {P : Int → Prop} (c : ¬ C) (h : P (if C then a else b)) : P b := by rwa [if_neg c] at h
theorem zE_tsw {df lo hi x : Int} {offs : Array Int} {n pt : Nat} (hd : zI y.2.1 pc (.tableswitch df lo hi offs) n pc') (hs : hi - lo + 1 = (offs.size : Int)) (kin : ∀ k : Nat, k < offs.size → x = lo + k → ∃ (off : Int) (pt : Nat), offs[k]? = some off ∧ (pc : Int) + off = (pt : Int) ∧ zE X g l d bc bs y pt ls st μ Q) (ht : (pc : Int) + df = (pt : Int)) (kout : x < lo ∨ hi < x → zE X g l d bc bs y pt ls st μ Q) : zE X g l d bc bs y pc ls ((0, 0, x) :: st) μ Q := by
  by_cases h : x < lo ∨ hi < x
  · exact zE_tableOut hd h ht (kout h)
  · obtain ⟨off, pt, h1, h2, h3⟩ := kin (x - lo).toNat (by omega) (by omega)
    exact zE_tableIn hd (by omega) (by omega) h1 h2 h3
theorem zE_aalB {t L : Nat} {a i o : Int} (ht : t = 20 ∧ o = 13 ∨ t = 21 ∧ o = 14) (hd : zI y.2.1 pc .aaload 1 pc') (h : 0 ≤ i ∧ i < L) (k : zE X true l d bc bs y pc' ls ((2, 15, a + o + 4 * i) :: st) μ Q) : zE X true l d bc bs y pc ls ((0, 0, i) :: (t + 2, L, a) :: st) μ Q := by
  rcases ht with ⟨rfl, rfl⟩ | ⟨rfl, rfl⟩
  · exact zE_aalr (t := 20) (o := 13) (q := 4) hd (by decide) (by decide) (fun _ => rfl) rfl rfl (by decide) (by decide) h k
  · exact zE_aalr (t := 21) (o := 14) (q := 4) hd (by decide) (by decide) (fun _ => rfl) rfl rfl (by decide) (by decide) h k
end

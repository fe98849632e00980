
theorem vp_lt {i : Int32} {n : Nat} (h : vp_in i n) : i.toNatClampNeg < n := Nat.not_le.mp fun q => h (Or.inr q)
theorem ms_ne {mem : TMem} {o o2 k k2 : Nat} {x : Int32} (h : ¬ o2 = o) : mset mem o k x o2 k2 = mem o2 k2 := by unfold mset; rw [if_neg h]
theorem ms_eq {mem : TMem} {o k : Nat} {x : Int32} : mset mem o k x o k = x := by unfold mset; rw [if_pos rfl]; simp [upd]
theorem ms_sl {mem : TMem} {o k k2 : Nat} {x : Int32} (h : ¬ k2 = k) : mset mem o k x o k2 = mem o k2 := by unfold mset; rw [if_pos rfl]; simp [upd, h]
def imin (x y : Int32) : Int32 := if y < x then y else x
def imax (x y : Int32) : Int32 := if x < y then y else x
def mfill (mem : TMem) (o n : Nat) (v : Int32) : TMem := fun q => if q = o then (fun k => if k < n then v else mem o k) else mem q
def TMi (l : Launch) (i : TMI) (fr lo : Nat) (av : List TV) (mem : TMem) (post : Int32 → TMem → Prop) : Prop := TMet l i fr lo av mem (fun r m => ∃ x : Int32, r = some (.inl x) ∧ post x m)
def TMv (l : Launch) (i : TMI) (fr lo : Nat) (av : List TV) (mem : TMem) (post : TMem → Prop) : Prop := TMet l i fr lo av mem (fun r m => r = none ∧ post m)
def TMr (l : Launch) (i : TMI) (fr lo : Nat) (av : List TV) (mem : TMem) (post : Nat → TMem → Prop) : Prop := TMet l i fr lo av mem (fun r m => ∃ q : Nat, r = some (.inr q) ∧ post q m)
def TL_le (a b : TL) : Prop := ∀ (i : Nat) (v : TV), a[i]? = some (some v) → b[i]? = some (some v)
theorem tl_nil (b : TL) : TL_le [] b := fun i v h => by simp at h
theorem tl_n {a b : TL} {x : Option TV} (h : TL_le a b) : TL_le (none :: a) (x :: b) := fun i v hi => by
  cases i with
  | zero => simp at hi
  | succ i => simpa using h i v (by simpa using hi)
theorem tl_s {a b : TL} {x : Option TV} (h : TL_le a b) : TL_le (x :: a) (x :: b) := fun i v hi => by
  cases i with
  | zero => simpa using hi
  | succ i => simpa using h i v (by simpa using hi)
theorem tr_weak {κ : TCx} {pc : Nat} {loc loc2 : TL} {st : List TV} {mem : TMem} (h : TL_le loc2 loc) (k : WT κ pc loc2 st mem) : WT κ pc loc st mem := by
  obtain ⟨⟨p, l, e, R, s, m, args, below, meth, c⟩, ⟨D, ρ, cI, cR, A⟩, ⟨cells, slots, Q⟩⟩ := κ
  intro H locs ls hP hS hl
  refine k H locs ls hP hS ⟨hl.1, hl.2.1, fun q hq => ?_⟩
  obtain ⟨i, v, h1, rfl⟩ := tw_l_out hq
  exact hl.2.2 _ (tw_l_in (h i v h1))
section RW
variable {κ : TCx} {own : String} {cc : ByteArray} {nL fr lo pc : Nat} {loc : TL} {st : List TV} {mem : TMem}
theorem tr_gi {ix ci k o : Nat} {fs : List (Option Nat)} {v : Int32} (hC : TC κ own cc nL fr lo) (d : decode cc pc = .ok (.getfield ix, 3)) (hg : GF own ix ci k) (ho : shp[o]? = some (.inl (ci, fs))) (hf : fs[k]? = some none) (hv : mem o k = v) (kk : WT κ (pc + 3) loc (.inl v :: st) mem) : WT κ pc loc (.inr o :: st) mem := by
  subst hv
  exact tr_geti hC d hg ho hf kk
theorem tr_al {o n : Nat} {i v : Int32} (hC : TC κ own cc nL fr lo) (d : decode cc pc = .ok (.iaload, 1)) (ho : shp[o]? = some (.inr (.inl n))) (hin : vp_in i n) (hv : mem o i.toNatClampNeg = v) (kk : WT κ (pc + 1) loc (.inl v :: st) mem) : WT κ pc loc (.inl i :: .inr o :: st) mem := by
  subst hv
  exact tr_iald hC d ho hin kk
theorem tr_min {ix : Nat} {x y : Int32} (hC : TC κ own cc nL fr lo) (d : decode cc pc = .ok (.invokestatic ix, 3)) (hw : Cond.methodLink own ix Lib.Math.min.name ∈ tw_tbl ∧ Cond.static Lib.Math.min.name ∈ tw_tbl ∧ Cond.initialized "java/lang/Math" ∈ tw_tbl ∧ Cond.code Lib.Math.min.name Lib.Math.min.code 2 (some .int) ∈ tw_tbl) (hr : 1 ≤ fr ∧ st.length + 13 ≤ lo) (kk : WT κ (pc + 3) loc (.inl (imin x y) :: st) mem) : WT κ pc loc (.inl y :: .inl x :: st) mem := tr_mmin hC d hw hr.1 hr.2 kk
theorem tr_max {ix : Nat} {x y : Int32} (hC : TC κ own cc nL fr lo) (d : decode cc pc = .ok (.invokestatic ix, 3)) (hw : Cond.methodLink own ix Lib.Math.max.name ∈ tw_tbl ∧ Cond.static Lib.Math.max.name ∈ tw_tbl ∧ Cond.initialized "java/lang/Math" ∈ tw_tbl ∧ Cond.code Lib.Math.max.name Lib.Math.max.code 2 (some .int) ∈ tw_tbl) (hr : 1 ≤ fr ∧ st.length + 13 ≤ lo) (kk : WT κ (pc + 3) loc (.inl (imax x y) :: st) mem) : WT κ pc loc (.inl y :: .inl x :: st) mem := tr_mmax hC d hw hr.1 hr.2 kk
theorem tr_cVi {ix ci o fr2 lo2 : Nat} {fs : List (Option Nat)} {i : TMI} {As stk : List TV} {T : u_T} {N : Nat} {post : Int32 → TMem → Prop} (hC : TC κ own cc nL fr lo) (d : decode cc pc = .ok (.invokevirtual ix, 3)) (hw : MCW own ix i As.length) (hv : Cond.instanceMethod i.1 ∈ tw_tbl ∧ Cond.selects i.1.cls i.1 i.1 ∈ tw_tbl) (ho : shp[o]? = some (.inl (ci, fs))) (hc : vwCl[ci]? = some (i.1.cls, T, N)) (hrm : fr2 + 1 ≤ fr ∧ 8 + (i.2.2.1 + 11) + lo2 ≤ lo ∧ st.length ≤ 8) (hst : As.reverse ++ .inr o :: st = stk) (hM : TMi κ.1.2.1 i fr2 lo2 (.inr o :: As) mem post) (kk : ∀ x m2, post x m2 → WT κ (pc + 3) loc (.inl x :: st) m2) : WT κ pc loc stk mem := tr_callV hC d hw hv ho hc hrm hst hM (fun r m2 h => by
  obtain ⟨x, rfl, h⟩ := h
  exact kk x m2 h)
theorem tr_cVv {ix ci o fr2 lo2 : Nat} {fs : List (Option Nat)} {i : TMI} {As stk : List TV} {T : u_T} {N : Nat} {post : TMem → Prop} (hC : TC κ own cc nL fr lo) (d : decode cc pc = .ok (.invokevirtual ix, 3)) (hw : MCW own ix i As.length) (hv : Cond.instanceMethod i.1 ∈ tw_tbl ∧ Cond.selects i.1.cls i.1 i.1 ∈ tw_tbl) (ho : shp[o]? = some (.inl (ci, fs))) (hc : vwCl[ci]? = some (i.1.cls, T, N)) (hrm : fr2 + 1 ≤ fr ∧ 8 + (i.2.2.1 + 11) + lo2 ≤ lo ∧ st.length ≤ 8) (hst : As.reverse ++ .inr o :: st = stk) (hM : TMv κ.1.2.1 i fr2 lo2 (.inr o :: As) mem post) (kk : ∀ m2, post m2 → WT κ (pc + 3) loc st m2) : WT κ pc loc stk mem := tr_callV hC d hw hv ho hc hrm hst hM (fun r m2 h => by
  obtain ⟨rfl, h⟩ := h
  exact kk m2 h)
theorem tr_cVr {ix ci o fr2 lo2 : Nat} {fs : List (Option Nat)} {i : TMI} {As stk : List TV} {T : u_T} {N : Nat} {post : Nat → TMem → Prop} (hC : TC κ own cc nL fr lo) (d : decode cc pc = .ok (.invokevirtual ix, 3)) (hw : MCW own ix i As.length) (hv : Cond.instanceMethod i.1 ∈ tw_tbl ∧ Cond.selects i.1.cls i.1 i.1 ∈ tw_tbl) (ho : shp[o]? = some (.inl (ci, fs))) (hc : vwCl[ci]? = some (i.1.cls, T, N)) (hrm : fr2 + 1 ≤ fr ∧ 8 + (i.2.2.1 + 11) + lo2 ≤ lo ∧ st.length ≤ 8) (hst : As.reverse ++ .inr o :: st = stk) (hM : TMr κ.1.2.1 i fr2 lo2 (.inr o :: As) mem post) (kk : ∀ x m2, post x m2 → WT κ (pc + 3) loc (.inr x :: st) m2) : WT κ pc loc stk mem := tr_callV hC d hw hv ho hc hrm hst hM (fun r m2 h => by
  obtain ⟨x, rfl, h⟩ := h
  exact kk x m2 h)
theorem tr_xVi {ix ci o fr2 lo2 : Nat} {fs : List (Option Nat)} {i : TMI} {As stk : List TV} {T : u_T} {N : Nat} {f : Int32} {M : TMem} (hC : TC κ own cc nL fr lo) (d : decode cc pc = .ok (.invokevirtual ix, 3)) (hw : MCW own ix i As.length) (hv : Cond.instanceMethod i.1 ∈ tw_tbl ∧ Cond.selects i.1.cls i.1 i.1 ∈ tw_tbl) (ho : shp[o]? = some (.inl (ci, fs))) (hc : vwCl[ci]? = some (i.1.cls, T, N)) (hrm : fr2 + 1 ≤ fr ∧ 8 + (i.2.2.1 + 11) + lo2 ≤ lo ∧ st.length ≤ 8) (hst : As.reverse ++ .inr o :: st = stk) (hM : TMi κ.1.2.1 i fr2 lo2 (.inr o :: As) mem (fun x m => x = f ∧ m = M)) (kk : WT κ (pc + 3) loc (.inl f :: st) M) : WT κ pc loc stk mem := tr_callV hC d hw hv ho hc hrm hst hM (fun r m2 h => by
  obtain ⟨x, rfl, rfl, rfl⟩ := h
  exact kk)
theorem tr_xVv {ix ci o fr2 lo2 : Nat} {fs : List (Option Nat)} {i : TMI} {As stk : List TV} {T : u_T} {N : Nat} {M : TMem} (hC : TC κ own cc nL fr lo) (d : decode cc pc = .ok (.invokevirtual ix, 3)) (hw : MCW own ix i As.length) (hv : Cond.instanceMethod i.1 ∈ tw_tbl ∧ Cond.selects i.1.cls i.1 i.1 ∈ tw_tbl) (ho : shp[o]? = some (.inl (ci, fs))) (hc : vwCl[ci]? = some (i.1.cls, T, N)) (hrm : fr2 + 1 ≤ fr ∧ 8 + (i.2.2.1 + 11) + lo2 ≤ lo ∧ st.length ≤ 8) (hst : As.reverse ++ .inr o :: st = stk) (hM : TMv κ.1.2.1 i fr2 lo2 (.inr o :: As) mem (fun m => m = M)) (kk : WT κ (pc + 3) loc st M) : WT κ pc loc stk mem := tr_callV hC d hw hv ho hc hrm hst hM (fun r m2 h => by
  obtain ⟨rfl, rfl⟩ := h
  exact kk)
theorem tr_xVr {ix ci o fr2 lo2 : Nat} {fs : List (Option Nat)} {i : TMI} {As stk : List TV} {T : u_T} {N : Nat} {q : Nat} {M : TMem} (hC : TC κ own cc nL fr lo) (d : decode cc pc = .ok (.invokevirtual ix, 3)) (hw : MCW own ix i As.length) (hv : Cond.instanceMethod i.1 ∈ tw_tbl ∧ Cond.selects i.1.cls i.1 i.1 ∈ tw_tbl) (ho : shp[o]? = some (.inl (ci, fs))) (hc : vwCl[ci]? = some (i.1.cls, T, N)) (hrm : fr2 + 1 ≤ fr ∧ 8 + (i.2.2.1 + 11) + lo2 ≤ lo ∧ st.length ≤ 8) (hst : As.reverse ++ .inr o :: st = stk) (hM : TMr κ.1.2.1 i fr2 lo2 (.inr o :: As) mem (fun x m => x = q ∧ m = M)) (kk : WT κ (pc + 3) loc (.inr q :: st) M) : WT κ pc loc stk mem := tr_callV hC d hw hv ho hc hrm hst hM (fun r m2 h => by
  obtain ⟨x, rfl, rfl, rfl⟩ := h
  exact kk)
theorem tr_cSi {ix fr2 lo2 : Nat} {i : TMI} {As stk : List TV} {post : Int32 → TMem → Prop} (hC : TC κ own cc nL fr lo) (d : decode cc pc = .ok (.invokestatic ix, 3)) (hw : MCW own ix i As.length) (hv : Cond.static i.1 ∈ tw_tbl) (hrm : fr2 + 1 ≤ fr ∧ 8 + (i.2.2.1 + 11) + lo2 ≤ lo ∧ st.length ≤ 8) (hst : As.reverse ++ st = stk) (hM : TMi κ.1.2.1 i fr2 lo2 As mem post) (kk : ∀ x m2, post x m2 → WT κ (pc + 3) loc (.inl x :: st) m2) : WT κ pc loc stk mem := tr_callS hC d hw hv hrm hst hM (fun r m2 h => by
  obtain ⟨x, rfl, h⟩ := h
  exact kk x m2 h)
theorem tr_cSv {ix fr2 lo2 : Nat} {i : TMI} {As stk : List TV} {post : TMem → Prop} (hC : TC κ own cc nL fr lo) (d : decode cc pc = .ok (.invokestatic ix, 3)) (hw : MCW own ix i As.length) (hv : Cond.static i.1 ∈ tw_tbl) (hrm : fr2 + 1 ≤ fr ∧ 8 + (i.2.2.1 + 11) + lo2 ≤ lo ∧ st.length ≤ 8) (hst : As.reverse ++ st = stk) (hM : TMv κ.1.2.1 i fr2 lo2 As mem post) (kk : ∀ m2, post m2 → WT κ (pc + 3) loc st m2) : WT κ pc loc stk mem := tr_callS hC d hw hv hrm hst hM (fun r m2 h => by
  obtain ⟨rfl, h⟩ := h
  exact kk m2 h)
theorem tr_cSr {ix fr2 lo2 : Nat} {i : TMI} {As stk : List TV} {post : Nat → TMem → Prop} (hC : TC κ own cc nL fr lo) (d : decode cc pc = .ok (.invokestatic ix, 3)) (hw : MCW own ix i As.length) (hv : Cond.static i.1 ∈ tw_tbl) (hrm : fr2 + 1 ≤ fr ∧ 8 + (i.2.2.1 + 11) + lo2 ≤ lo ∧ st.length ≤ 8) (hst : As.reverse ++ st = stk) (hM : TMr κ.1.2.1 i fr2 lo2 As mem post) (kk : ∀ x m2, post x m2 → WT κ (pc + 3) loc (.inr x :: st) m2) : WT κ pc loc stk mem := tr_callS hC d hw hv hrm hst hM (fun r m2 h => by
  obtain ⟨x, rfl, h⟩ := h
  exact kk x m2 h)
theorem tr_xSi {ix fr2 lo2 : Nat} {i : TMI} {As stk : List TV} {f : Int32} {M : TMem} (hC : TC κ own cc nL fr lo) (d : decode cc pc = .ok (.invokestatic ix, 3)) (hw : MCW own ix i As.length) (hv : Cond.static i.1 ∈ tw_tbl) (hrm : fr2 + 1 ≤ fr ∧ 8 + (i.2.2.1 + 11) + lo2 ≤ lo ∧ st.length ≤ 8) (hst : As.reverse ++ st = stk) (hM : TMi κ.1.2.1 i fr2 lo2 As mem (fun x m => x = f ∧ m = M)) (kk : WT κ (pc + 3) loc (.inl f :: st) M) : WT κ pc loc stk mem := tr_callS hC d hw hv hrm hst hM (fun r m2 h => by
  obtain ⟨x, rfl, rfl, rfl⟩ := h
  exact kk)
theorem tr_xSv {ix fr2 lo2 : Nat} {i : TMI} {As stk : List TV} {M : TMem} (hC : TC κ own cc nL fr lo) (d : decode cc pc = .ok (.invokestatic ix, 3)) (hw : MCW own ix i As.length) (hv : Cond.static i.1 ∈ tw_tbl) (hrm : fr2 + 1 ≤ fr ∧ 8 + (i.2.2.1 + 11) + lo2 ≤ lo ∧ st.length ≤ 8) (hst : As.reverse ++ st = stk) (hM : TMv κ.1.2.1 i fr2 lo2 As mem (fun m => m = M)) (kk : WT κ (pc + 3) loc st M) : WT κ pc loc stk mem := tr_callS hC d hw hv hrm hst hM (fun r m2 h => by
  obtain ⟨rfl, rfl⟩ := h
  exact kk)
theorem tr_xSr {ix fr2 lo2 : Nat} {i : TMI} {As stk : List TV} {q : Nat} {M : TMem} (hC : TC κ own cc nL fr lo) (d : decode cc pc = .ok (.invokestatic ix, 3)) (hw : MCW own ix i As.length) (hv : Cond.static i.1 ∈ tw_tbl) (hrm : fr2 + 1 ≤ fr ∧ 8 + (i.2.2.1 + 11) + lo2 ≤ lo ∧ st.length ≤ 8) (hst : As.reverse ++ st = stk) (hM : TMr κ.1.2.1 i fr2 lo2 As mem (fun x m => x = q ∧ m = M)) (kk : WT κ (pc + 3) loc (.inr q :: st) M) : WT κ pc loc stk mem := tr_callS hC d hw hv hrm hst hM (fun r m2 h => by
  obtain ⟨x, rfl, rfl, rfl⟩ := h
  exact kk)
end RW
theorem nar_b {x : Int32} (h : x = 0 ∨ x = 1) : narrow .boolean (.int x) = .int x := by rcases h with rfl | rfl <;> decide
theorem sw_ne {x k : Int32} {z : Int} (h : ¬ x = k) (hz : k.toInt = z) : ¬ x.toInt = z := fun e => h (Int32.toInt_inj.mp (e.trans hz.symm))
theorem tmi_v {l : Launch} {i : TMI} {fr lo : Nat} {av : List TV} {mem M : TMem} {f f2 : Int32} (h : TMi l i fr lo av mem (fun x m => x = f ∧ m = M)) (e : f = f2) : TMi l i fr lo av mem (fun x m => x = f2 ∧ m = M) := by subst e; exact h

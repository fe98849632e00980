abbrev TO : Type := (Nat × List (Option Nat)) ⊕ (Nat ⊕ (Nat × Nat))
/-- the cells, in the order in which they are made: an object (its class, which fields are ints and which are which cells), an int row, a row of rows -/
def shp : List TO := [.inl (10, [some 1, some 10, some 40, some 106, some 108, some 154, some 156, some 181, some 186]), .inl (2, [some 2, some 3, none, none]), .inr (.inl 40), .inr (.inr (6, 4)), .inr (.inl 8), .inr (.inl 8), .inr (.inl 8), .inr (.inl 8), .inr (.inl 8), .inr (.inl 8), .inl (5, [some 11, some 28, some 29, some 30, none]), .inr (.inr (16, 12)), .inr (.inl 4), .inr (.inl 4), .inr (.inl 4), .inr (.inl 4), .inr (.inl 4), .inr (.inl 4), .inr (.inl 4), .inr (.inl 4), .inr (.inl 4), .inr (.inl 4), .inr (.inl 4), .inr (.inl 4), .inr (.inl 4), .inr (.inl 4), .inr (.inl 4), .inr (.inl 4), .inr (.inl 16), .inr (.inl 8), .inr (.inr (9, 31)), .inr (.inl 9), .inr (.inl 9), .inr (.inl 9), .inr (.inl 9), .inr (.inl 9), .inr (.inl 9), .inr (.inl 9), .inr (.inl 9), .inr (.inl 9), .inl (6, [some 41, some 82, some 99, some 100, some 104, none, none]), .inr (.inr (40, 42)), .inr (.inl 8), .inr (.inl 8), .inr (.inl 8), .inr (.inl 8), .inr (.inl 8), .inr (.inl 8), .inr (.inl 8), .inr (.inl 8), .inr (.inl 8), .inr (.inl 8), .inr (.inl 8), .inr (.inl 8), .inr (.inl 8), .inr (.inl 8), .inr (.inl 8), .inr (.inl 8), .inr (.inl 8), .inr (.inl 8), .inr (.inl 8), .inr (.inl 8), .inr (.inl 8), .inr (.inl 8), .inr (.inl 8), .inr (.inl 8), .inr (.inl 8), .inr (.inl 8), .inr (.inl 8), .inr (.inl 8), .inr (.inl 8), .inr (.inl 8), .inr (.inl 8), .inr (.inl 8), .inr (.inl 8), .inr (.inl 8), .inr (.inl 8), .inr (.inl 8), .inr (.inl 8), .inr (.inl 8), .inr (.inl 8), .inr (.inl 8), .inr (.inr (16, 83)), .inr (.inl 4), .inr (.inl 4), .inr (.inl 4), .inr (.inl 4), .inr (.inl 4), .inr (.inl 4), .inr (.inl 4), .inr (.inl 4), .inr (.inl 4), .inr (.inl 4), .inr (.inl 4), .inr (.inl 4), .inr (.inl 4), .inr (.inl 4), .inr (.inl 4), .inr (.inl 4), .inr (.inl 41), .inl (8, [some 101, some 102, some 103]), .inr (.inl 41), .inr (.inl 41), .inr (.inl 4), .inl (7, [some 105, none]), .inr (.inl 40), .inl (7, [some 107, none]), .inr (.inl 12), .inl (3, [some 109, some 110, some 111, some 153, none, none]), .inr (.inl 96), .inr (.inl 12), .inr (.inr (41, 112)), .inr (.inl 96), .inr (.inl 96), .inr (.inl 96), .inr (.inl 96), .inr (.inl 96), .inr (.inl 96), .inr (.inl 96), .inr (.inl 96), .inr (.inl 96), .inr (.inl 96), .inr (.inl 96), .inr (.inl 96), .inr (.inl 96), .inr (.inl 96), .inr (.inl 96), .inr (.inl 96), .inr (.inl 96), .inr (.inl 96), .inr (.inl 96), .inr (.inl 96), .inr (.inl 96), .inr (.inl 96), .inr (.inl 96), .inr (.inl 96), .inr (.inl 96), .inr (.inl 96), .inr (.inl 96), .inr (.inl 96), .inr (.inl 96), .inr (.inl 96), .inr (.inl 96), .inr (.inl 96), .inr (.inl 96), .inr (.inl 96), .inr (.inl 96), .inr (.inl 96), .inr (.inl 96), .inr (.inl 96), .inr (.inl 96), .inr (.inl 96), .inr (.inl 96), .inr (.inl 40), .inl (1, [some 155]), .inr (.inl 41), .inl (4, [some 157, some 164, none, none]), .inr (.inr (6, 158)), .inr (.inl 8), .inr (.inl 8), .inr (.inl 8), .inr (.inl 8), .inr (.inl 8), .inr (.inl 8), .inr (.inr (16, 165)), .inr (.inl 48), .inr (.inl 48), .inr (.inl 48), .inr (.inl 48), .inr (.inl 48), .inr (.inl 48), .inr (.inl 48), .inr (.inl 48), .inr (.inl 48), .inr (.inl 48), .inr (.inl 48), .inr (.inl 48), .inr (.inl 48), .inr (.inl 48), .inr (.inl 48), .inr (.inl 48), .inl (9, [some 182, none, none, none]), .inl (8, [some 183, some 184, some 185]), .inr (.inl 41), .inr (.inl 41), .inr (.inl 4), .inl (0, [none, none, none]), .inl (11, [none, some 188, some 189, none, none, some 190, some 191, some 192, some 193, none, some 194, none, some 195, some 196, some 197, some 198, none, some 199, some 200, none, none, none, some 201, some 202, some 203, some 204, none, some 205, some 206, some 207, some 208, some 209]), .inr (.inl 40), .inr (.inl 48), .inr (.inl 8), .inr (.inl 16), .inr (.inl 64), .inr (.inl 81), .inr (.inl 12), .inr (.inl 40), .inr (.inl 40), .inr (.inl 40), .inr (.inl 48), .inr (.inl 16), .inr (.inl 640), .inr (.inl 13448), .inr (.inl 5), .inr (.inl 5), .inr (.inl 369), .inr (.inl 40), .inr (.inl 41), .inr (.inl 41), .inr (.inl 3936), .inr (.inl 533)]
/-! THE TOY MACHINE: after construction no cell is made and no reference changes; so the world is one map of ints, by cell and place. -/
abbrev TV : Type := Int32 ⊕ Nat
abbrev TMem : Type := Nat → Nat → Int32
abbrev TL : Type := List (Option TV)
def tw_v (ρ : Nat → Nat) (v : TV) : Value := match v with
  | .inl x => .int x
  | .inr o => .ref (ρ o)
theorem tw_v_cat (ρ : Nat → Nat) (v : TV) : (tw_v ρ v).category = 1 := by cases v <;> rfl
def tw_f (ρ : Nat → Nat) (mem : TMem) (o : Nat) (k : Nat) (f : Option Nat) : Value := match f with
  | none => .int (mem o k)
  | some q => .ref (ρ q)
def tw_e (ρ : Nat → Nat) (cI cR : ClassId) (mem : TMem) (o : Nat) (sh : TO) : va_E := match sh with
  | .inl q => .inr (q.1, q.2.mapIdx (fun k f => tw_f ρ mem o k f))
  | .inr (.inl n) => .inl (cI, n, .inl (mem o))
  | .inr (.inr q) => .inl (cR, q.1, .inr (.inr (.inr (.inr (fun i => if i < q.1 then some (ρ (q.2 + i)) else none)))))
def tw_ws (ρ : Nat → Nat) (cI cR : ClassId) (mem : TMem) : va_W := shp.mapIdx (fun o sh => (ρ o, tw_e ρ cI cR mem o sh))
def mset (mem : TMem) (o k : Nat) (x : Int32) : TMem := fun q => if q = o then upd (mem o) k x else mem q
theorem tw_ws_get {ρ : Nat → Nat} {cI cR : ClassId} {mem : TMem} {o : Nat} {sh : TO} (h : shp[o]? = some sh) : (tw_ws ρ cI cR mem)[o]? = some (ρ o, tw_e ρ cI cR mem o sh) := by
  unfold tw_ws
  rw [List.getElem?_mapIdx, h]
  rfl
theorem tw_ws_inv {ρ : Nat → Nat} {cI cR : ClassId} {mem : TMem} {k : Nat} {q : Nat × va_E} (h : (tw_ws ρ cI cR mem)[k]? = some q) : ∃ sh, shp[k]? = some sh ∧ q = (ρ k, tw_e ρ cI cR mem k sh) := by
  unfold tw_ws at h
  rw [List.getElem?_mapIdx] at h
  cases hs : shp[k]? with
  | none => rw [hs] at h; cases h
  | some sh => rw [hs] at h; exact ⟨sh, rfl, (Option.some.inj h).symm⟩
theorem tw_D {ρ : Nat → Nat} {cI cR : ClassId} {mem mem' : TMem} {A : Nat → Prop} (h : va_D A (tw_ws ρ cI cR mem)) : va_D A (tw_ws ρ cI cR mem') := by
  refine ⟨fun i j p q hi hj e => ?_, fun k q hk => ?_⟩
  · obtain ⟨s1, a1, rfl⟩ := tw_ws_inv hi
    obtain ⟨s2, a2, rfl⟩ := tw_ws_inv hj
    exact h.1 i j _ _ (tw_ws_get a1) (tw_ws_get a2) e
  · obtain ⟨s1, a1, rfl⟩ := tw_ws_inv hk
    exact h.2 k (ρ k, tw_e ρ cI cR mem k s1) (tw_ws_get a1)
theorem tw_e_other {ρ : Nat → Nat} {cI cR : ClassId} {mem : TMem} {o k q : Nat} {x : Int32} {sh : TO} (h : q ≠ o) : tw_e ρ cI cR (mset mem o k x) q sh = tw_e ρ cI cR mem q sh := by
  have e : mset mem o k x q = mem q := if_neg h
  rcases sh with ⟨ci, fs⟩ | n | ⟨n, b⟩
  · have e2 : (fun k' f => tw_f ρ (mset mem o k x) q k' f) = fun k' f => tw_f ρ mem q k' f := by
      funext k' f
      cases f <;> simp [tw_f, e]
    simp only [tw_e, e2]
  · simp only [tw_e, e]
  · rfl
theorem tw_set_arr {ρ : Nat → Nat} {cI cR : ClassId} {mem : TMem} {o n k : Nat} {x : Int32} (h : shp[o]? = some (.inr (.inl n))) : (tw_ws ρ cI cR mem).set o (ρ o, .inl (cI, n, .inl (upd (mem o) k x))) = tw_ws ρ cI cR (mset mem o k x) := by
  apply List.ext_getElem?
  intro i
  by_cases hi : i = o
  · subst hi
    have hl : i < (tw_ws ρ cI cR mem).length := (List.getElem?_eq_some_iff.mp (tw_ws_get h)).1
    rw [List.getElem?_set_self hl, tw_ws_get h]
    simp [tw_e, mset]
  · rw [List.getElem?_set_ne (Ne.symm hi)]
    cases hs : shp[i]? with
    | none =>
      unfold tw_ws
      rw [List.getElem?_mapIdx, List.getElem?_mapIdx, hs]
      rfl
    | some sh => rw [tw_ws_get hs, tw_ws_get hs, tw_e_other hi]
theorem tw_set_fld {ρ : Nat → Nat} {cI cR : ClassId} {mem : TMem} {o ci k : Nat} {fs : List (Option Nat)} {x : Int32} (h : shp[o]? = some (.inl (ci, fs))) (hk : fs[k]? = some none) : (tw_ws ρ cI cR mem).set o (ρ o, .inr (ci, (fs.mapIdx (fun k f => tw_f ρ mem o k f)).set k (.int x))) = tw_ws ρ cI cR (mset mem o k x) := by
  apply List.ext_getElem?
  intro i
  by_cases hi : i = o
  · subst hi
    have hl : i < (tw_ws ρ cI cR mem).length := (List.getElem?_eq_some_iff.mp (tw_ws_get h)).1
    rw [List.getElem?_set_self hl, tw_ws_get h]
    have e : (fs.mapIdx (fun k f => tw_f ρ mem i k f)).set k (.int x) = fs.mapIdx (fun k' f => tw_f ρ (mset mem i k x) i k' f) := by
      apply List.ext_getElem?
      intro j
      by_cases hj : j = k
      · subst hj
        have hl2 : j < (fs.mapIdx (fun k f => tw_f ρ mem i k f)).length := by
          rw [List.length_mapIdx]
          exact (List.getElem?_eq_some_iff.mp hk).1
        rw [List.getElem?_set_self hl2, List.getElem?_mapIdx, hk]
        simp [tw_f, mset, upd]
      · rw [List.getElem?_set_ne (Ne.symm hj), List.getElem?_mapIdx, List.getElem?_mapIdx]
        cases fs[j]? with
        | none => rfl
        | some f => cases f <;> simp [tw_f, mset, upd, hj]
    simp only [tw_e, e]
  · rw [List.getElem?_set_ne (Ne.symm hi)]
    cases hs : shp[i]? with
    | none =>
      unfold tw_ws
      rw [List.getElem?_mapIdx, List.getElem?_mapIdx, hs]
      rfl
    | some sh => rw [tw_ws_get hs, tw_ws_get hs, tw_e_other hi]
/-- locals -/
def tw_l (ρ : Nat → Nat) : Nat → TL → List (Nat × Value)
  | _, [] => []
  | k, none :: r => tw_l ρ (k + 1) r
  | k, some v :: r => (k, tw_v ρ v) :: tw_l ρ (k + 1) r
theorem tw_l_in {ρ : Nat → Nat} : ∀ {loc : TL} {k i : Nat} {v : TV}, loc[i]? = some (some v) → (k + i, tw_v ρ v) ∈ tw_l ρ k loc
  | [], k, i, v, h => by simp at h
  | none :: r, k, 0, v, h => by simp at h
  | none :: r, k, i + 1, v, h => by
    have := tw_l_in (ρ := ρ) (loc := r) (k := k + 1) (i := i) (v := v) (by simpa using h)
    rw [show k + (i + 1) = k + 1 + i by omega]
    exact this
  | some w :: r, k, 0, v, h => by
    have e : w = v := by simpa using h
    subst e
    exact List.mem_cons_self
  | some w :: r, k, i + 1, v, h => by
    have := tw_l_in (ρ := ρ) (loc := r) (k := k + 1) (i := i) (v := v) (by simpa using h)
    rw [show k + (i + 1) = k + 1 + i by omega]
    exact List.mem_cons_of_mem _ this
theorem tw_l_out {ρ : Nat → Nat} : ∀ {loc : TL} {k : Nat} {q : Nat × Value}, q ∈ tw_l ρ k loc → ∃ i v, loc[i]? = some (some v) ∧ q = (k + i, tw_v ρ v)
  | [], k, q, h => by simp [tw_l] at h
  | none :: r, k, q, h => by
    obtain ⟨i, v, h1, h2⟩ := tw_l_out (loc := r) (k := k + 1) h
    exact ⟨i + 1, v, by simpa using h1, by rw [h2]; congr 1; omega⟩
  | some w :: r, k, q, h => by
    rcases List.mem_cons.mp h with h | h
    · exact ⟨0, w, rfl, h⟩
    · obtain ⟨i, v, h1, h2⟩ := tw_l_out (loc := r) (k := k + 1) h
      exact ⟨i + 1, v, by simpa using h1, by rw [h2]; congr 1; omega⟩
theorem tw_has_at {ρ : Nat → Nat} {ls : Array Slot} {nL : Nat} {loc : TL} (h : lv_has ls nL (tw_l ρ 0 loc)) {i : Nat} {v : TV} (hi : loc[i]? = some (some v)) : ls[i]? = some (.val (tw_v ρ v)) := by
  have := h.2.2 _ (tw_l_in (ρ := ρ) (k := 0) hi)
  simpa using this
theorem tw_has_set {ρ : Nat → Nat} {ls : Array Slot} {nL : Nat} {loc : TL} {i : Nat} {v : TV} (h : lv_has ls nL ((i, tw_v ρ v) :: (tw_l ρ 0 loc).filter (fun q => !(q.1 == i) && !(q.1 + 1 == i && q.2.category == 2)))) : lv_has ls nL (tw_l ρ 0 (loc.set i (some v))) := by
  refine ⟨h.1, h.2.1, fun q hq => ?_⟩
  obtain ⟨j, w, h1, rfl⟩ := tw_l_out hq
  rw [Nat.zero_add]
  by_cases hj : j = i
  · subst hj
    have hl : j < loc.length := by
      have := (List.getElem?_eq_some_iff.mp h1).1
      simpa using this
    rw [List.getElem?_set_self hl] at h1
    cases h1
    exact h.2.2 _ List.mem_cons_self
  · rw [List.getElem?_set_ne (Ne.symm hj)] at h1
    refine h.2.2 (j, tw_v ρ w) (List.mem_cons_of_mem _ (List.mem_filter.mpr ⟨?_, ?_⟩))
    · have := tw_l_in (ρ := ρ) (k := 0) h1
      simpa using this
    · simp [hj, tw_v_cat]
theorem tw_l_args {ρ : Nat → Nat} : ∀ (av : List TV) (k n : Nat), tw_l ρ k (av.map some ++ List.replicate n none) = lv_args k (av.map (tw_v ρ))
  | [], k, n => by
    induction n generalizing k with
    | zero => rfl
    | succ n ih => exact ih (k + 1)
  | v :: r, k, n => by
    show (k, tw_v ρ v) :: tw_l ρ (k + 1) (r.map some ++ List.replicate n none) = _
    rw [tw_l_args r (k + 1) n]
    show _ = (k, tw_v ρ v) :: lv_args (if (tw_v ρ v).category = 2 then k + 2 else k + 1) (r.map (tw_v ρ))
    rw [tw_v_cat]
    rfl
theorem tw_sl_len {ρ : Nat → Nat} : ∀ (av : List TV), (lg_sl (av.map (tw_v ρ))).length = av.length
  | [] => rfl
  | v :: r => by
    have h := tw_sl_len (ρ := ρ) r
    unfold lg_sl at h ⊢
    simp [tw_v_cat] at h ⊢
    exact h
/-- a context: the machine, the world's frame, the room taken and the aim -/
abbrev TCx : Type := (Program × Launch × Env × Room × State × MethodId × Array Value × List Frame × Method × Code) × (va_G × (Nat → Nat) × ClassId × ClassId × (Nat → Prop)) × (Nat × Nat × (State → Prop))
def WT (κ : TCx) (pc : Nat) (loc : TL) (st : List TV) (mem : TMem) : Prop := match κ with
  | ((p, l, e, R, s, m, args, below, meth, c), (D, ρ, cI, cR, A), (cells, slots, Q)) => ∀ (H : Heap) (locs : List Loc) (ls : Array Slot), va_P D vwCl (tw_ws ρ cI cR mem) H → va_S A s.heap H locs → lv_has ls c.maxLocals (tw_l ρ 0 loc) → W p l e R s m args below meth c H locs cells slots Q (F0 m pc ls (st.map (tw_v ρ)))
def TC (κ : TCx) (own : String) (cc : ByteArray) (nL fr lo : Nat) : Prop := match κ with
  | ((p, _, _, R, s, m, args, _, _, c), (D, ρ, cI, cR, A), (cells, slots, _)) => p.tables.exec = Jvm.exec ∧ c.code = cc ∧ c.maxLocals = nL ∧ s.vm.findClass own = some m.cls ∧ (∀ w ∈ tw_tbl, w.before args s = true) ∧ va_K D vwCl [(cI, .int), (cR, .array .int)] s ∧ va_D A (tw_ws ρ cI cR (fun _ _ => 0)) ∧ (fr ≤ R.frames ∧ lo ≤ R.locals) ∧ (cells ≤ R.cells ∧ slots ≤ R.slots)
def tw_A (ρ : Nat → Nat) : Nat → Prop := fun q => ∃ o, o < shp.length ∧ q = ρ o
def tw_Q (D : va_G) (ρ : Nat → Nat) (cI cR : ClassId) (post : Option TV → TMem → Prop) : Array Value → State → Outcome → State → Prop := fun _ st oc t => (∃ (r : Option TV) (mem' : TMem), oc = .returned (r.map (tw_v ρ)) ∧ post r mem' ∧ va_P D vwCl (tw_ws ρ cI cR mem') t.heap) ∧ va_F (tw_A ρ) st t
def TR (κ : TCx) (rt : Option FieldType) (post : Option TV → TMem → Prop) : Prop := match κ with
  | ((_, _, _, _, s, _, args, below, meth, _), (D, ρ, cI, cR, A), (cells, slots, Q)) => meth.sig.returnType = rt ∧ meth.locks = false ∧ A = tw_A ρ ∧ cells = 0 ∧ slots = 0 ∧ Q = MQ below (tw_Q D ρ cI cR post) args s 0 0 (tw_A ρ)
abbrev TMI : Type := MethodName × ByteArray × Nat × Option FieldType
def mi_ws (i : TMI) : List Cond := .code i.1 i.2.1 i.2.2.1 i.2.2.2 :: tw_tbl
def tw_Pc (D : va_G) (ρ : Nat → Nat) (cI cR : ClassId) (av : List TV) (mem : TMem) : Array Value → State → Prop := va_Pc (av.map (tw_v ρ)) (fun U => va_P D vwCl (tw_ws ρ cI cR mem) U.heap ∧ va_K D vwCl [(cI, .int), (cR, .array .int)] U ∧ va_D (fun _ => True) (tw_ws ρ cI cR mem))
/-- a method's contract over the toy world -/
def TMet (l : Launch) (i : TMI) (fr lo : Nat) (av : List TV) (mem : TMem) (post : Option TV → TMem → Prop) : Prop :=
  ∀ (D : va_G) (ρ : Nat → Nat) (cI cR : ClassId), Met l i.1 (mi_ws i) { frames := fr, cells := 0, slots := 0, locals := lo } (tw_Pc D ρ cI cR av mem) (tw_Q D ρ cI cR post) 0 0 (tw_A ρ)
theorem tw_blind {D : va_G} {ρ : Nat → Nat} {cI cR : ClassId} {av : List TV} {mem : TMem} : FrameBlind (tw_Pc D ρ cI cR av mem) := fun a U g mk q => by
  obtain ⟨q0, qP, qK, qD⟩ := q
  exact ⟨q0, qP, va_K.moved (u := U) (U := U.calling g mk a) (Vm.Alike.refl U.vm) qK, qD⟩
theorem tw_A_D {ρ : Nat → Nat} {cI cR : ClassId} {mem : TMem} {A : Nat → Prop} (h : va_D A (tw_ws ρ cI cR mem)) {q : Nat} (hq : tw_A ρ q) : A q := by
  obtain ⟨o, ho, rfl⟩ := hq
  exact h.2 o _ (tw_ws_get (List.getElem?_eq_getElem ho))
theorem tw_D_A {ρ : Nat → Nat} {cI cR : ClassId} {mem : TMem} {A : Nat → Prop} (h : va_D A (tw_ws ρ cI cR mem)) : va_D (tw_A ρ) (tw_ws ρ cI cR mem) := ⟨h.1, fun k q hk => by
  obtain ⟨sh, h1, rfl⟩ := tw_ws_inv hk
  exact ⟨k, (List.getElem?_eq_some_iff.mp h1).1, rfl⟩⟩
/-- a contract out of the body's walk -/
theorem tw_met {l : Launch} {i : TMI} {fr lo : Nat} {av : List TV} {mem : TMem} {post : Option TV → TMem → Prop} (hy : plainName i.1.cls = true) (hn : av.length ≤ i.2.2.1)
    (body : ∀ κ : TCx, κ.1.2.1 = l → TC κ i.1.cls i.2.1 i.2.2.1 fr lo → TR κ i.2.2.2 post → WT κ 0 (av.map some ++ List.replicate (i.2.2.1 - av.length) none) [] mem) : TMet l i fr lo av mem post := by
  intro D ρ cI cR
  refine Met.ofW (cc := i.2.1) (maxL := i.2.2.1) (ret := i.2.2.2) hy rfl ?_
  intro p e s m args below meth c s₁ B hml hv
  obtain ⟨rfl, hP, hK, hD⟩ := hv
  have hts := atoms_spec (ws := mi_ws i) B.pre
  have hown : s.vm.findClass i.1.cls = some m.cls := findClass_of_methodNamed B.named
  have hbody := body ((p, l, e, ({ frames := fr, cells := 0, slots := 0, locals := lo } : Room), s, m, (av.map (tw_v ρ)).toArray, below, meth, c), (D, ρ, cI, cR, tw_A ρ), (0, 0, MQ below (tw_Q D ρ cI cR post) (av.map (tw_v ρ)).toArray s 0 0 (tw_A ρ))) rfl
    ⟨B.exec, B.bytes, hml, hown, fun w h => hts w (List.mem_cons_of_mem _ h), hK, tw_D (tw_D_A hD), ⟨Nat.le_refl _, Nat.le_refl _⟩, ⟨Nat.zero_le _, Nat.zero_le _⟩⟩ ⟨B.returns, B.notSynchronized, rfl, rfl, rfl, rfl⟩
  rw [lg_entry_eq]
  refine hbody s.heap [] _ hP va_S.rf ?_
  rw [tw_l_args, hml]
  exact lv_entry (av.map (tw_v ρ)) (by rw [tw_sl_len]; exact hn)

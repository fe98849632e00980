/-! CONSTRUCTION: the cells stand one behind the other from an address b on -/
abbrev CV : Type := Option TV
abbrev CC : Type := (Nat × List CV) ⊕ ((Nat × (Nat → Int32)) ⊕ (Nat × Nat))
def cw_v (b : Nat) (v : CV) : Value := match v with
  | none => .null
  | some v => tw_v (fun o => b + o) v
def cw_e (b : Nat) (cI cR : ClassId) (c : CC) : va_E := match c with
  | .inl q => .inr (q.1, q.2.map (cw_v b))
  | .inr (.inl q) => .inl (cI, q.1, .inl q.2)
  | .inr (.inr q) => .inl (cR, q.1, .inr (.inr (.inr (.inr (fun i => if i < q.1 then some (b + (q.2 + i)) else none)))))
def cw_ws (b : Nat) (cI cR : ClassId) (cs : List CC) : va_W := cs.mapIdx (fun o c => (b + o, cw_e b cI cR c))
def CW (D : va_G) (b : Nat) (cI cR : ClassId) (cs : List CC) (H : Heap) : Prop := H.size = b + cs.length ∧ va_P D vwCl (cw_ws b cI cR cs) H
theorem cw_get {b : Nat} {cI cR : ClassId} {cs : List CC} {o : Nat} {c : CC} (h : cs[o]? = some c) : (cw_ws b cI cR cs)[o]? = some (b + o, cw_e b cI cR c) := by
  unfold cw_ws
  rw [List.getElem?_mapIdx, h]
  rfl
theorem cw_inv {b : Nat} {cI cR : ClassId} {cs : List CC} {k : Nat} {q : Nat × va_E} (h : (cw_ws b cI cR cs)[k]? = some q) : ∃ c, cs[k]? = some c ∧ q = (b + k, cw_e b cI cR c) := by
  unfold cw_ws at h
  rw [List.getElem?_mapIdx] at h
  cases hs : cs[k]? with
  | none => rw [hs] at h; cases h
  | some c => rw [hs] at h; exact ⟨c, rfl, (Option.some.inj h).symm⟩
theorem cw_D {b : Nat} {cI cR : ClassId} {cs : List CC} : va_D (fun q => b ≤ q) (cw_ws b cI cR cs) := by
  refine ⟨fun i j p q hi hj e => ?_, fun k q hk => ?_⟩
  · obtain ⟨s1, a1, rfl⟩ := cw_inv hi
    obtain ⟨s2, a2, rfl⟩ := cw_inv hj
    have e : b + i = b + j := e
    omega
  · obtain ⟨s1, a1, rfl⟩ := cw_inv hk
    exact Nat.le_add_right b k
theorem cw_set {b : Nat} {cI cR : ClassId} {cs : List CC} {o : Nat} {c : CC} : (cw_ws b cI cR cs).set o (b + o, cw_e b cI cR c) = cw_ws b cI cR (cs.set o c) := by
  apply List.ext_getElem?
  intro i
  unfold cw_ws
  by_cases hi : i = o
  · subst hi
    by_cases hl : i < cs.length
    · rw [List.getElem?_set_self (by rw [List.length_mapIdx]; exact hl), List.getElem?_mapIdx, List.getElem?_set_self hl]
      rfl
    · rw [List.getElem?_eq_none (by simp; omega), List.getElem?_eq_none (by simp; omega)]
  · rw [List.getElem?_set_ne (Ne.symm hi), List.getElem?_mapIdx, List.getElem?_mapIdx, List.getElem?_set_ne (Ne.symm hi)]
theorem cw_app {b : Nat} {cI cR : ClassId} {cs ds : List CC} {D : va_G} {H : Heap} (h : va_P D vwCl (cw_ws b cI cR cs) H) (h2 : ∀ (j : Nat) (c : CC), ds[j]? = some c → va_at D vwCl (b + (cs.length + j), cw_e b cI cR c) H) : va_P D vwCl (cw_ws b cI cR (cs ++ ds)) H := by
  intro k q hk
  obtain ⟨c, h1, rfl⟩ := cw_inv hk
  by_cases hl : k < cs.length
  · rw [List.getElem?_append_left hl] at h1
    exact h k _ (cw_get h1)
  · rw [List.getElem?_append_right (by omega)] at h1
    have := h2 _ _ h1
    rw [show cs.length + (k - cs.length) = k by omega] at this
    exact this
abbrev NS : Type := List (String × Nat × MethodName × String)
abbrev CX : Type := (Program × Launch × Env × Room × State × MethodId × Array Value × List Frame × Method × Code) × (va_G × Nat × ClassId × ClassId × List (Nat × Value)) × (State → Prop)
def WC (κ : CX) (pc : Nat) (loc : TL) (st : List TV) (cs : List CC) (cells slots : Nat) : Prop := match κ with
  | ((p, l, e, R, s, m, args, below, meth, c), (D, b, cI, cR, ex), Q) => ∀ (H : Heap) (locs : List Loc) (ls : Array Slot), CW D b cI cR cs H → va_S (fun q => b ≤ q) s.heap H locs → lv_has ls c.maxLocals (ex ++ tw_l (fun o => b + o) 0 loc) → W p l e R s m args below meth c H locs cells slots Q (F0 m pc ls (st.map (tw_v (fun o => b + o))))
def CT (κ : CX) (own : String) (cc : ByteArray) (nL fr lo mc ms : Nat) (ns : NS) : Prop := match κ with
  | ((p, _, _, R, s, m, args, _, _, c), (D, b, cI, cR, ex), _) => p.tables.exec = Jvm.exec ∧ c.code = cc ∧ c.maxLocals = nL ∧ s.vm.findClass own = some m.cls ∧ (∀ w ∈ tw_tbl, w.before args s = true) ∧ va_K D vwCl [(cI, .int), (cR, .array .int)] s ∧ (fr ≤ R.frames ∧ lo ≤ R.locals) ∧ (mc ≤ R.cells ∧ ms ≤ R.slots) ∧ (Cond.arrayOver (.array .int)).before args s = true ∧ (∀ q ∈ ns, va_Nw (.methodLinkNest q.1 q.2.1 q.2.2.1 q.2.2.2) s) ∧ b ≤ s.heap.size ∧ (∀ q ∈ ex, q.1 = 0 ∧ q.2.category = 1)
def cw_Pc (D : va_G) (b : Nat) (cI cR : ClassId) (ns : NS) (av : List TV) (cs : List CC) : Array Value → State → Prop := va_Pc (av.map (tw_v (fun o => b + o))) (fun U => CW D b cI cR cs U.heap ∧ va_K D vwCl [(cI, .int), (cR, .array .int)] U ∧ (Cond.arrayOver (.array .int)).before #[] U = true ∧ (∀ q ∈ ns, va_Nw (.methodLinkNest q.1 q.2.1 q.2.2.1 q.2.2.2) U))
def cw_Q (D : va_G) (b : Nat) (cI cR : ClassId) (cs2 : List CC) : Array Value → State → Outcome → State → Prop := fun _ st oc t => oc = .returned none ∧ CW D b cI cR cs2 t.heap ∧ va_F (fun q => b ≤ q) st t
def CMet (l : Launch) (i : TMI) (fr lo mc ms : Nat) (ns : NS) (av : List TV) (cs cs2 : List CC) : Prop :=
  ∀ (D : va_G) (b : Nat) (cI cR : ClassId), Met l i.1 (mi_ws i) { frames := fr, cells := mc, slots := ms, locals := lo } (cw_Pc D b cI cR ns av cs) (cw_Q D b cI cR cs2) mc ms (fun q => b ≤ q)
def CR (κ : CX) (mc ms : Nat) (cs2 : List CC) : Prop := match κ with
  | ((_, _, _, _, s, _, args, below, meth, _), (D, b, cI, cR, ex), Q) => meth.sig.returnType = none ∧ meth.locks = false ∧ Q = MQ below (cw_Q D b cI cR cs2) args s mc ms (fun q => b ≤ q)
def CI (κ : CX) : Prop := κ.1.2.2.2.2.2.2.2.2.1.name = "<init>"
theorem cw_blind {D : va_G} {b : Nat} {cI cR : ClassId} {ns : NS} {av : List TV} {cs : List CC} : FrameBlind (cw_Pc D b cI cR ns av cs) := fun a U g mk q => by
  obtain ⟨q0, qP, qK, qA, qN⟩ := q
  exact ⟨q0, qP, va_K.moved (u := U) (U := U.calling g mk a) (Vm.Alike.refl U.vm) qK, arrayOver_alikeB (Vm.Alike.refl U.vm) qA, fun w hw => va_Nw.same rfl rfl (qN w hw)⟩
theorem cw_met {l : Launch} {i : TMI} {fr lo mc ms : Nat} {ns : NS} {av : List TV} {cs cs2 : List CC} (hy : plainName i.1.cls = true) (hn : av.length ≤ i.2.2.1) (hr : i.2.2.2 = none)
    (body : ∀ κ : CX, κ.1.2.1 = l → CT κ i.1.cls i.2.1 i.2.2.1 fr lo mc ms ns → CR κ mc ms cs2 → (i.1.name = "<init>" → CI κ) → WC κ 0 (av.map some ++ List.replicate (i.2.2.1 - av.length) none) [] cs 0 0) : CMet l i fr lo mc ms ns av cs cs2 := by
  intro D b cI cR
  refine Met.ofW (cc := i.2.1) (maxL := i.2.2.1) (ret := i.2.2.2) hy rfl ?_
  intro p e s m args below meth c s₁ B hml hv
  obtain ⟨rfl, hP, hK, hAO, hNS⟩ := hv
  have hts := atoms_spec (ws := mi_ws i) B.pre
  have hown : s.vm.findClass i.1.cls = some m.cls := findClass_of_methodNamed B.named
  have hbody := body ((p, l, e, ({ frames := fr, cells := mc, slots := ms, locals := lo } : Room), s, m, (av.map (tw_v (fun o => b + o))).toArray, below, meth, c), (D, b, cI, cR, []), MQ below (cw_Q D b cI cR cs2) (av.map (tw_v (fun o => b + o))).toArray s mc ms (fun q => b ≤ q)) rfl
    ⟨B.exec, B.bytes, hml, hown, fun w h => hts w (List.mem_cons_of_mem _ h), hK, ⟨Nat.le_refl _, Nat.le_refl _⟩, ⟨Nat.le_refl _, Nat.le_refl _⟩, arrayOver_alikeB (Vm.Alike.refl s.vm) hAO, hNS, by rw [hP.1]; exact Nat.le_add_right _ _, fun q hq => absurd hq List.not_mem_nil⟩ ⟨by rw [B.returns, hr], B.notSynchronized, rfl⟩ (fun h => (name_of_methodNamed B.named B.method).1.trans h)
  rw [lg_entry_eq]
  refine hbody s.heap [] _ hP va_S.rf ?_
  rw [List.nil_append, tw_l_args, hml]
  exact lv_entry (av.map (tw_v (fun o => b + o))) (by rw [tw_sl_len]; exact hn)
theorem lv_right {ls : Array Slot} {n : Nat} {a b : List (Nat × Value)} (h : lv_has ls n (a ++ b)) : lv_has ls n b := ⟨h.1, h.2.1, fun q hq => h.2.2 q (List.mem_append_right a hq)⟩
theorem cw_has_set {ρ : Nat → Nat} {ls : Array Slot} {nL : Nat} {loc : TL} {i : Nat} {v : TV} {ex : List (Nat × Value)} (hi : 0 < i) (hex : ∀ q ∈ ex, q.1 = 0 ∧ q.2.category = 1) (h : lv_has ls nL ((i, tw_v ρ v) :: (ex ++ tw_l ρ 0 loc).filter (fun q => !(q.1 == i) && !(q.1 + 1 == i && q.2.category == 2)))) : lv_has ls nL (ex ++ tw_l ρ 0 (loc.set i (some v))) := by
  have h2 := tw_has_set (ρ := ρ) (loc := loc) (v := v) (i := i) (ls := ls) (nL := nL) ⟨h.1, h.2.1, fun q hq => by
    rcases List.mem_cons.mp hq with h1 | h1
    · exact h.2.2 q (by rw [h1]; exact List.mem_cons_self)
    · obtain ⟨a1, a2⟩ := List.mem_filter.mp h1
      exact h.2.2 q (List.mem_cons_of_mem _ (List.mem_filter.mpr ⟨List.mem_append_right ex a1, a2⟩))⟩
  refine ⟨h.1, h.2.1, fun q hq => ?_⟩
  rcases List.mem_append.mp hq with h1 | h1
  · obtain ⟨e1, e2⟩ := hex q h1
    refine h.2.2 q (List.mem_cons_of_mem _ (List.mem_filter.mpr ⟨List.mem_append_left _ h1, ?_⟩))
    have : ¬ 0 = i := by omega
    simp [e1, e2, this]
  · exact h2.2.2 q h1
section CROWS
variable {κ : CX} {own : String} {cc : ByteArray} {nL fr lo mc ms pc cells slots : Nat} {ns : NS} {loc : TL} {st : List TV} {cs : List CC}
theorem tc_const {ins : Instr} {n : Nat} {v : Int32} (hC : CT κ own cc nL fr lo mc ms ns) (d : decode cc pc = .ok (ins, n)) (hi : (∃ z : Int, ins = .iconst z ∧ n = 1 ∧ Int32.ofInt z = v) ∨ (∃ z : Int, ins = .bipush z ∧ n = 2 ∧ (Int8.ofInt z).toInt32 = v) ∨ (∃ z : Int, ins = .sipush z ∧ n = 3 ∧ (Int16.ofInt z).toInt32 = v)) (k : WC κ (pc + n) loc (.inl v :: st) cs cells slots) : WC κ pc loc st cs cells slots := by
  obtain ⟨⟨p, l, e, R, s, m, args, below, meth, c⟩, ⟨D, b, cI, cR, ex⟩, Q⟩ := κ
  obtain ⟨hx, hb, hml, hown, hts, hK, hR, hcs, hAO, hNS, hbs, hex⟩ := hC
  intro H locs ls hP hS hl
  rcases hi with ⟨z, rfl, rfl, hv⟩ | ⟨z, rfl, rfl, hv⟩ | ⟨z, rfl, rfl, hv⟩
  · exact lv_iconst hx hb d hv (k H locs ls hP hS hl)
  · exact lv_bipush hx hb d hv (k H locs ls hP hS hl)
  · exact lv_sipush hx hb d hv (k H locs ls hP hS hl)
theorem tc_ldc {ix : Nat} {v : Int32} (hC : CT κ own cc nL fr lo mc ms ns) (d : decode cc pc = .ok (.ldc ix, 2)) (hw : Cond.constant own ix v ∈ tw_tbl) (k : WC κ (pc + 2) loc (.inl v :: st) cs cells slots) : WC κ pc loc st cs cells slots := by
  obtain ⟨⟨p, l, e, R, s, m, args, below, meth, c⟩, ⟨D, b, cI, cR, ex⟩, Q⟩ := κ
  obtain ⟨hx, hb, hml, hown, hts, hK, hR, hcs, hAO, hNS, hbs, hex⟩ := hC
  intro H locs ls hP hS hl
  exact lv_ldc hx hb hown (hts _ hw) d (k H locs ls hP hS hl)
theorem tc_aload_n {j : Fin 4} {i x : Nat} (hC : CT κ own cc nL fr lo mc ms ns) (d : decode cc pc = .ok (.aload_n j, 1)) (hi : (j : Nat) = i) (hv : loc[i]? = some (some (.inr x))) (k : WC κ (pc + 1) loc (.inr x :: st) cs cells slots) : WC κ pc loc st cs cells slots := by
  obtain ⟨⟨p, l, e, R, s, m, args, below, meth, c⟩, ⟨D, b, cI, cR, ex⟩, Q⟩ := κ
  obtain ⟨hx, hb, hml, hown, hts, hK, hR, hcs, hAO, hNS, hbs, hex⟩ := hC
  intro H locs ls hP hS hl
  exact lv_aload_n hx hb d hi (tw_has_at (lv_right hl) hv) (k H locs ls hP hS hl)
theorem tc_iload_n {j : Fin 4} {i : Nat} {x : Int32} (hC : CT κ own cc nL fr lo mc ms ns) (d : decode cc pc = .ok (.iload_n j, 1)) (hi : (j : Nat) = i) (hv : loc[i]? = some (some (.inl x))) (k : WC κ (pc + 1) loc (.inl x :: st) cs cells slots) : WC κ pc loc st cs cells slots := by
  obtain ⟨⟨p, l, e, R, s, m, args, below, meth, c⟩, ⟨D, b, cI, cR, ex⟩, Q⟩ := κ
  obtain ⟨hx, hb, hml, hown, hts, hK, hR, hcs, hAO, hNS, hbs, hex⟩ := hC
  intro H locs ls hP hS hl
  exact lv_iload_n hx hb d hi (tw_has_at (lv_right hl) hv) (k H locs ls hP hS hl)
theorem tc_istore_n {j : Fin 4} {i : Nat} {x : Int32} {loc2 : TL} (hC : CT κ own cc nL fr lo mc ms ns) (d : decode cc pc = .ok (.istore_n j, 1)) (hi : (j : Nat) = i) (hn : 0 < i ∧ i < nL) (h2 : loc.set i (some (.inl x)) = loc2) (k : WC κ (pc + 1) loc2 st cs cells slots) : WC κ pc loc (.inl x :: st) cs cells slots := by
  obtain ⟨⟨p, l, e, R, s, m, args, below, meth, c⟩, ⟨D, b, cI, cR, ex⟩, Q⟩ := κ
  obtain ⟨hx, hb, hml, hown, hts, hK, hR, hcs, hAO, hNS, hbs, hex⟩ := hC
  intro H locs ls hP hS hl
  subst h2
  exact lv_istore_n hx hb d hi hl (by rw [hml]; exact hn.2) rfl (fun ls2 h2 => k H locs ls2 hP hS (cw_has_set hn.1 hex (v := .inl x) h2))
theorem tc_astore_n {j : Fin 4} {i x : Nat} {loc2 : TL} (hC : CT κ own cc nL fr lo mc ms ns) (d : decode cc pc = .ok (.astore_n j, 1)) (hi : (j : Nat) = i) (hn : 0 < i ∧ i < nL) (h2 : loc.set i (some (.inr x)) = loc2) (k : WC κ (pc + 1) loc2 st cs cells slots) : WC κ pc loc (.inr x :: st) cs cells slots := by
  obtain ⟨⟨p, l, e, R, s, m, args, below, meth, c⟩, ⟨D, b, cI, cR, ex⟩, Q⟩ := κ
  obtain ⟨hx, hb, hml, hown, hts, hK, hR, hcs, hAO, hNS, hbs, hex⟩ := hC
  intro H locs ls hP hS hl
  subst h2
  exact lv_astore_n hx hb d hi hl (by rw [hml]; exact hn.2) rfl (fun ls2 h2 => k H locs ls2 hP hS (cw_has_set hn.1 hex (v := .inr x) h2))
theorem tc_iinc {i : Nat} {n : Int} {x v : Int32} {loc2 : TL} (hC : CT κ own cc nL fr lo mc ms ns) (d : decode cc pc = .ok (.iinc i n, 3)) (hx0 : loc[i]? = some (some (.inl x))) (hv : x + Int32.ofInt n = v) (hn : 0 < i ∧ i < nL) (h2 : loc.set i (some (.inl v)) = loc2) (k : WC κ (pc + 3) loc2 st cs cells slots) : WC κ pc loc st cs cells slots := by
  obtain ⟨⟨p, l, e, R, s, m, args, below, meth, c⟩, ⟨D, b, cI, cR, ex⟩, Q⟩ := κ
  obtain ⟨hx, hb, hml, hown, hts, hK, hR, hcs, hAO, hNS, hbs, hex⟩ := hC
  intro H locs ls hP hS hl
  subst h2
  obtain ⟨j, hj⟩ := List.getElem?_of_mem (List.mem_append_right ex (tw_l_in (ρ := fun o => b + o) (k := 0) hx0))
  rw [Nat.zero_add] at hj
  exact lv_iinc hx hb d hl hj hv (by rw [hml]; exact hn.2) rfl (fun ls2 h2 => k H locs ls2 hP hS (cw_has_set hn.1 hex (v := .inl v) h2))
theorem tc_dup {v : TV} (hC : CT κ own cc nL fr lo mc ms ns) (d : decode cc pc = .ok (.dup, 1)) (k : WC κ (pc + 1) loc (v :: v :: st) cs cells slots) : WC κ pc loc (v :: st) cs cells slots := by
  obtain ⟨⟨p, l, e, R, s, m, args, below, meth, c⟩, ⟨D, b, cI, cR, ex⟩, Q⟩ := κ
  obtain ⟨hx, hb, hml, hown, hts, hK, hR, hcs, hAO, hNS, hbs, hex⟩ := hC
  intro H locs ls hP hS hl
  exact lv_dup hx hb d (tw_v_cat _ v) (k H locs ls hP hS hl)
theorem tc_goto {off : Int} {tgt : Nat} (hC : CT κ own cc nL fr lo mc ms ns) (d : decode cc pc = .ok (.goto off, 3)) (ht : (pc : Int) + off = (tgt : Int)) (k : WC κ tgt loc st cs cells slots) : WC κ pc loc st cs cells slots := by
  obtain ⟨⟨p, l, e, R, s, m, args, below, meth, c⟩, ⟨D, b, cI, cR, ex⟩, Q⟩ := κ
  obtain ⟨hx, hb, hml, hown, hts, hK, hR, hcs, hAO, hNS, hbs, hex⟩ := hC
  intro H locs ls hP hS hl
  exact lv_goto hx hb d ht (k H locs ls hP hS hl)
theorem tc_ge {x y : Int32} {off : Int} {tgt : Nat} (hC : CT κ own cc nL fr lo mc ms ns) (d : decode cc pc = .ok (.if_icmp .ge off, 3)) (ht : (pc : Int) + off = (tgt : Int)) (kt : y ≤ x → WC κ tgt loc st cs cells slots) (kf : ¬ (y ≤ x) → WC κ (pc + 3) loc st cs cells slots) : WC κ pc loc (.inl y :: .inl x :: st) cs cells slots := by
  obtain ⟨⟨p, l, e, R, s, m, args, below, meth, c⟩, ⟨D, b, cI, cR, ex⟩, Q⟩ := κ
  obtain ⟨hx, hb, hml, hown, hts, hK, hR, hcs, hAO, hNS, hbs, hex⟩ := hC
  intro H locs ls hP hS hl
  exact lv_icmp_ge hx hb d ht (fun h => kt h H locs ls hP hS hl) (fun h => kf h H locs ls hP hS hl)
theorem tc_max {ix : Nat} {x y v : Int32} (hC : CT κ own cc nL fr lo mc ms ns) (d : decode cc pc = .ok (.invokestatic ix, 3)) (hw : Cond.methodLink own ix Lib.Math.max.name ∈ tw_tbl ∧ Cond.static Lib.Math.max.name ∈ tw_tbl ∧ Cond.initialized "java/lang/Math" ∈ tw_tbl ∧ Cond.code Lib.Math.max.name Lib.Math.max.code 2 (some .int) ∈ tw_tbl) (hr : 1 ≤ fr ∧ st.length + 13 ≤ lo) (hc : cells ≤ mc ∧ slots ≤ ms) (hv : (if x < y then y else x) = v) (kk : WC κ (pc + 3) loc (.inl v :: st) cs cells slots) : WC κ pc loc (.inl y :: .inl x :: st) cs cells slots := by
  obtain ⟨⟨p, l, e, R, s, m, args, below, meth, c⟩, ⟨D, b, cI, cR, ex⟩, Q⟩ := κ
  obtain ⟨hx, hb, hml, hown, hts, hK, hR, hcs, hAO, hNS, hbs, hex⟩ := hC
  intro H locs ls hP hS hl
  subst hv
  have hsum : ((st.map (tw_v (fun o => b + o))).map fun v => v.category).sum = st.length := tw_sum st
  exact va_mmax hx hb hl.1.symm hown (hts _ hw.1) (hts _ hw.2.1) (hts _ hw.2.2.1) (hts _ hw.2.2.2) (Nat.le_trans hr.1 hR.1) (by rw [hsum]; exact Nat.le_trans hr.2 hR.2) (Nat.le_trans hc.1 hcs.1) (Nat.le_trans hc.2 hcs.2) d (kk H locs ls hP hS hl)
theorem tc_objInit {ix o : Nat} (hC : CT κ own cc nL fr lo mc ms ns) (d : decode cc pc = .ok (.invokespecial ix, 3)) (hw : Cond.methodLink own ix objectInit ∈ tw_tbl ∧ Cond.instanceMethod objectInit ∈ tw_tbl ∧ Cond.code objectInit ⟨#[0xb1]⟩ 1 none ∈ tw_tbl) (hr : 1 ≤ fr ∧ st.length + 12 ≤ lo) (kk : WC κ (pc + 3) loc st cs cells slots) : WC κ pc loc (.inr o :: st) cs cells slots := by
  obtain ⟨⟨p, l, e, R, s, m, args, below, meth, c⟩, ⟨D, b, cI, cR, ex⟩, Q⟩ := κ
  obtain ⟨hx, hb, hml, hown, hts, hK, hR, hcs, hAO, hNS, hbs, hex⟩ := hC
  intro H locs ls hP hS hl
  have hsum : ((st.map (tw_v (fun o => b + o))).map fun v => v.category).sum = st.length := tw_sum st
  exact W.objInit hx hb hown (hts _ hw.1) (hts _ hw.2.1) (hts _ hw.2.2) rfl hl.1 rfl d (Nat.le_trans hr.1 hR.1) (by rw [hsum]; show 2 * 0 + _ + 12 ≤ _; have := hR.2; have := hr.2; omega) (kk H locs ls hP hS hl)
theorem tc_getr {ix ci k o q : Nat} {fs : List CV} (hC : CT κ own cc nL fr lo mc ms ns) (d : decode cc pc = .ok (.getfield ix, 3)) (hg : GF own ix ci k) (ho : cs[o]? = some (.inl (ci, fs))) (hf : fs[k]? = some (some (.inr q))) (kk : WC κ (pc + 3) loc (.inr q :: st) cs cells slots) : WC κ pc loc (.inr o :: st) cs cells slots := by
  obtain ⟨⟨p, l, e, R, s, m, args, below, meth, c⟩, ⟨D, b, cI, cR, ex⟩, Q⟩ := κ
  obtain ⟨hx, hb, hml, hown, hts, hK, hR, hcs, hAO, hNS, hbs, hex⟩ := hC
  intro H locs ls hP hS hl
  obtain ⟨C, T, N, hc, hk, hin, hl1, h1⟩ := hg
  exact va_get (ci := ci) (C := C) (T := T) (N := N) (v := .ref (b + q)) hx hb hts hin hown hK hP.2 o (cw_get ho) hc k hk (hts _ hl1) (fun _ h9 => by rw [← h1]; exact h9) (by rw [List.getElem?_map, hf]; rfl) d (kk H locs ls hP hS hl)
theorem tc_aald {o n bs : Nat} {i : Int32} {v : Nat} (hC : CT κ own cc nL fr lo mc ms ns) (d : decode cc pc = .ok (.aaload, 1)) (ho : cs[o]? = some (.inr (.inr (n, bs)))) (hin : vp_in i n) (hv : bs + i.toNatClampNeg = v) (kk : WC κ (pc + 1) loc (.inr v :: st) cs cells slots) : WC κ pc loc (.inl i :: .inr o :: st) cs cells slots := by
  obtain ⟨⟨p, l, e, R, s, m, args, below, meth, c⟩, ⟨D, b, cI, cR, ex⟩, Q⟩ := κ
  obtain ⟨hx, hb, hml, hown, hts, hK, hR, hcs, hAO, hNS, hbs, hex⟩ := hC
  intro H locs ls hP hS hl
  subst hv
  have hlt : i.toNatClampNeg < n := Nat.not_le.mp fun q => hin (Or.inr q)
  have hcell := hP.2 o _ (cw_get ho)
  exact W.aald (v := .ref (b + (bs + i.toNatClampNeg))) (ty := .array .int) hx hb hcell ((hK.2 1 _ rfl).1 n (fun j => va_rf (if j < n then some (b + (bs + j)) else none))) rfl (fun q => by cases q) (by show ¬ (i < 0 ∨ (arrV _ _ _).slots.size ≤ _); rw [arrV_size]; exact hin) (by show (arrV _ _ _).slots[_]? = _; rw [arrV_read _ _ hlt]; simp only [if_pos hlt]; rfl) rfl rfl d (kk H locs ls hP hS hl)
theorem tc_alen {o n : Nat} {f : Nat → Int32} {v : Int32} (hC : CT κ own cc nL fr lo mc ms ns) (d : decode cc pc = .ok (.arraylength, 1)) (ho : cs[o]? = some (.inr (.inl (n, f)))) (hv : Int32.ofNat n = v) (kk : WC κ (pc + 1) loc (.inl v :: st) cs cells slots) : WC κ pc loc (.inr o :: st) cs cells slots := by
  obtain ⟨⟨p, l, e, R, s, m, args, below, meth, c⟩, ⟨D, b, cI, cR, ex⟩, Q⟩ := κ
  obtain ⟨hx, hb, hml, hown, hts, hK, hR, hcs, hAO, hNS, hbs, hex⟩ := hC
  intro H locs ls hP hS hl
  exact va_alen hx hb hK hP.2 o 0 (cw_get ho) (ty := .int) rfl hv d (kk H locs ls hP hS hl)
theorem tc_iast {o n : Nat} {f : Nat → Int32} {i x : Int32} (hC : CT κ own cc nL fr lo mc ms ns) (d : decode cc pc = .ok (.iastore, 1)) (ho : cs[o]? = some (.inr (.inl (n, f)))) (hin : vp_in i n) (kk : WC κ (pc + 1) loc st (cs.set o (.inr (.inl (n, upd f i.toNatClampNeg x)))) cells slots) : WC κ pc loc (.inl x :: .inl i :: .inr o :: st) cs cells slots := by
  obtain ⟨⟨p, l, e, R, s, m, args, below, meth, c⟩, ⟨D, b, cI, cR, ex⟩, Q⟩ := κ
  obtain ⟨hx, hb, hml, hown, hts, hK, hR, hcs, hAO, hNS, hbs, hex⟩ := hC
  intro H locs ls hP hS hl
  have ha : (cw_ws b cI cR cs)[o]? = some (b + o, .inl (cI, n, .inl f)) := cw_get ho
  refine W.iast hx hb (hP.2 o _ ha) ((hK.2 0 _ rfl).1 n (fun j => .int (f j))) (fun q => by cases q) (by show ¬ (i < 0 ∨ (arrV _ _ _).slots.size ≤ _); rw [arrV_size]; exact hin) rfl rfl d (fun H1 e z oq => ?_)
  have hat : va_at D vwCl (b + o, .inl (cI, n, .inl (upd f i.toNatClampNeg x))) H1 := by
    show H1[b + o]? = some (vp_cell _ _)
    rw [e]
    rw [vp_cell_i, vp_cell_i, arrV_store]
    congr 2
    funext q
    by_cases hq : q = i.toNatClampNeg
    · subst hq
      simp [updV, upd]
    · simp [updV, upd, hq]
  have hP1 := hP.2.set cw_D ha hat oq
  have he : (cw_ws b cI cR cs).set o (b + o, .inl (cI, n, .inl (upd f i.toNatClampNeg x))) = cw_ws b cI cR (cs.set o (.inr (.inl (n, upd f i.toNatClampNeg x)))) := cw_set (c := .inr (.inl (n, upd f i.toNatClampNeg x)))
  rw [he] at hP1
  exact kk H1 _ ls ⟨by rw [z, List.length_set]; exact hP.1, hP1⟩ (hS.put z oq (Nat.le_add_right b o)) hl
end CROWS

section CROWS2
variable {κ : CX} {own : String} {cc : ByteArray} {nL fr lo mc ms pc cells slots : Nat} {ns : NS} {loc : TL} {st : List TV} {cs : List CC}
/-- a field that is put: its place, whether it is final, its type -/
def PF (own : String) (ix ci k : Nat) (ft : FieldType) (fin : Bool) : Prop := ∃ (C : String) (T : u_T) (N : Nat) (ty0 : Nat → FieldType), vwCl[ci]? = some (C, T, N) ∧ k < N ∧ (∀ w ∈ u_ws C T N, w ∈ tw_tbl) ∧ Cond.fieldLink own ix C (T k).2.1 (T k).2.2.1 ∈ tw_tbl ∧ (T k).1 = C ∧ (∀ k, k < N → parseFieldDescriptor (T k).2.2.1 = some (ty0 k)) ∧ (∀ a, a < N → ∀ b, b < N → a ≠ b → (T a).2.1 ≠ (T b).2.1) ∧ (T k).2.2.2 = fin ∧ parseFieldDescriptor (T k).2.2.1 = some ft ∧ (fin = true → C = own)
theorem tc_put {ix ci k o : Nat} {fs fs2 : List CV} {ft : FieldType} {fin : Bool} {v : TV} (hC : CT κ own cc nL fr lo mc ms ns) (hI : CI κ) (d : decode cc pc = .ok (.putfield ix, 3)) (hg : PF own ix ci k ft fin) (ho : cs[o]? = some (.inl (ci, fs))) (hk : k < fs.length) (hn : ∀ ρ : Nat → Nat, narrow ft (tw_v ρ v) = tw_v ρ v ∧ fits ft (tw_v ρ v) = true) (h2 : fs.set k (some v) = fs2) (kk : WC κ (pc + 3) loc st (cs.set o (.inl (ci, fs2))) cells slots) : WC κ pc loc (v :: .inr o :: st) cs cells slots := by
  obtain ⟨⟨p, l, e, R, s, m, args, below, meth, c⟩, ⟨D, b, cI, cR, ex⟩, Q⟩ := κ
  obtain ⟨hx, hb, hml, hown, hts, hK, hR, hcs, hAO, hNS, hbs, hex⟩ := hC
  intro H locs ls hP hS hl
  subst h2
  obtain ⟨C, T, N, ty0, hc, hkN, hin, hl1, h1, hty, hnm, hfin, hd, hfo⟩ := hg
  have hin2 : meth.name = "<init>" := hI
  have ha : (cw_ws b cI cR cs)[o]? = some (b + o, .inr (ci, fs.map (cw_v b))) := cw_get ho
  have he : (cw_ws b cI cR cs).set o (b + o, .inr (ci, (fs.map (cw_v b)).set k (cw_v b (some v)))) = cw_ws b cI cR (cs.set o (.inl (ci, fs.set k (some v)))) := by
    have := cw_set (b := b) (cI := cI) (cR := cR) (cs := cs) (o := o) (c := .inl (ci, fs.set k (some v)))
    rw [← this]
    show _ = (cw_ws b cI cR cs).set o (b + o, .inr (ci, (fs.set k (some v)).map (cw_v b)))
    rw [List.map_set]
  have hap := va_apart (own := own) hts hin ty0 hty hnm hK hc
  obtain ⟨r, q0, cell, q1, q2, q3, q4⟩ := hP.2 o _ ha
  have hr : r = (C, T, N) := Option.some.inj (q0.symm.trans hc)
  subst hr
  obtain ⟨hSl, hfc, kC, hkC, hkind⟩ := hK.1 ci _ hc
  obtain ⟨cf, kf, fi, f, hi, hsl⟩ := hSl k hkN
  have hst := (u_facts hfc hkC (u_lays hts hin hkN) hi).1
  have hlay := hts _ (hin _ (u_in_lay hkN))
  unfold u_lay at hlay
  have fin1 : ∀ H' : Heap, H'[b + o]? = some (cell.setSlot (D.2 ci k) (cw_v b (some v))) → H'.size = H.size → (∀ q : Nat, q ≠ b + o → H'[q]? = H[q]?) → W p l e R s m args below meth c H' (locs ++ [⟨b + o, D.2 ci k⟩]) cells slots Q (F0 m (pc + 3) ls (st.map (tw_v (fun o => b + o)))) := by
    intro H' e1 e2 e3
    have hP1 := hP.2.set (e := .inr (ci, (fs.map (cw_v b)).set k (cw_v b (some v)))) cw_D ha ⟨_, hc, t_OB.to (V := updV (vp_V (fs.map (cw_v b))) k (cw_v b (some v))) ⟨_, e1, q2, q3, t_set q4 hap hkN (cw_v b (some v))⟩ (fun j _ => vp_updV_set (by rw [List.length_map]; exact hk) (cw_v b (some v)) j)⟩ e3
    rw [he] at hP1
    exact kk H' _ ls ⟨by rw [e2, List.length_set]; exact hP.1, hP1⟩ (hS.put e2 e3 (Nat.le_add_right b o)) hl
  have hsame : ∀ x, s.fieldFound? (T k).1 (T k).2.1 (T k).2.2.1 = some x → s.fieldFound? C (T k).2.1 (T k).2.2.1 = some x := fun _ h9 => by rw [← h1]; exact h9
  cases fin with
  | false =>
    rw [if_neg (by rw [hfin]; decide)] at hlay
    have h6 := u_store hfc hkC hkind hlay hi hd (hn (fun o => b + o)).1 (hn (fun o => b + o)).2
    refine W.putK (v := cw_v b (some v)) hx hb (f := f) ⟨hown, hts _ hl1, ⟨_, _, _, hsame _ hi⟩, hst⟩ (by rw [q2]; exact h6) q1 q3 (by rw [hsl]; exact k2_hasslot (q4 k hkN)) rfl rfl d fun H' e1 e2 e3 => ?_
    rw [hsl] at e1 ⊢
    exact fin1 H' e1 e2 e3
  | true =>
    rw [if_pos hfin] at hlay
    have hcf : m.cls = cf := by
      obtain ⟨_, _, c', _, _, _, -, -, hf', -, -, -, hown2, -⟩ := Cond.laysFinal_spec hlay
      have e1 : c' = cf := by have := hi.symm.trans hf'; simp at this; exact this.1.symm
      rw [h1, hfo rfl] at hown2
      rw [← e1]; exact Option.some.inj (hown.symm.trans hown2)
    have h6 := u_fits hfc hkC hkind (Or.inr hlay) hi hd (hn (fun o => b + o)).1 (hn (fun o => b + o)).2
    refine W.putFinK (v := cw_v b (some v)) hx hb hown (hts _ hl1) (hsame _ hi) hst hcf hin2 (by rw [q2]; exact h6) q1 q3 (by rw [hsl]; exact k2_hasslot (q4 k hkN)) rfl rfl d fun H' e1 e2 e3 => ?_
    rw [hsl] at e1 ⊢
    exact fin1 H' e1 e2 e3
/-- a class of which an object is made -/
def NC (own : String) (ix ci : Nat) (fs : List CV) (N : Nat) : Prop := ∃ (C : String) (T : u_T) (ty : Nat → FieldType), vwCl[ci]? = some (C, T, N) ∧ (∀ w ∈ u_ws C T N, w ∈ tw_tbl) ∧ (∀ k, k < N → parseFieldDescriptor (T k).2.2.1 = some (ty k)) ∧ Cond.classLink own ix C ∈ tw_tbl ∧ Cond.instantiable C N ∈ tw_tbl ∧ Cond.initialized C ∈ tw_tbl ∧ ∀ b j, j < N → defaultValue (ty j) = vp_V (fs.map (cw_v b)) j
theorem tc_new {ix ci N n : Nat} {fs : List CV} (hC : CT κ own cc nL fr lo mc ms ns) (d : decode cc pc = .ok (.new ix, 3)) (hg : NC own ix ci fs N) (hr : cells + 1 ≤ mc ∧ slots + N ≤ ms) (hn : cs.length = n) (kk : WC κ (pc + 3) loc (.inr n :: st) (cs ++ [.inl (ci, fs)]) (cells + 1) (slots + N)) : WC κ pc loc st cs cells slots := by
  obtain ⟨⟨p, l, e, R, s, m, args, below, meth, c⟩, ⟨D, b, cI, cR, ex⟩, Q⟩ := κ
  obtain ⟨hx, hb, hml, hown, hts, hK, hR, hcs, hAO, hNS, hbs, hex⟩ := hC
  intro H locs ls hP hS hl
  subst hn
  obtain ⟨C, T, ty, hc, hin, hty, w1, w2, w3, hfs⟩ := hg
  have hKn := hK.1 ci _ hc
  refine W.newcK hx hb hown (hts _ w1) (hts _ w2) (hts _ w3) rfl d (Nat.le_trans hr.1 hcs.1) (Nat.le_trans hr.2 hcs.2) hKn.2.1 hP.1 fun H1 kC hkC e1 z1 o1 => ?_
  have hk : ∀ (k : Nat) (x : Nat × va_E), (cw_ws b cI cR cs)[k]? = some x → H1[x.1]? = H[x.1]? := fun k x hx => o1 x.1 (by have := (hP.2 k x hx).lt; rw [hP.1] at this; exact this)
  refine kk H1 locs ls ⟨by rw [z1, List.length_append]; simp; omega, cw_app (hP.2.kept hk) (fun j c0 hj => ?_)⟩ ⟨Nat.le_trans hS.1 (by rw [z1, hP.1]; omega), fun x h1 h2 => (o1 x (by have := hS.1; have := hP.1; omega)).trans (hS.2.1 x h1 h2), hS.2.2⟩ hl
  have hz : j < 1 := (List.getElem?_eq_some_iff.mp hj).1
  rw [show j = 0 by omega] at hj ⊢
  cases hj
  exact ⟨_, hc, (u_born ty hts hin hKn hkC e1 hty).to (hfs b)⟩
theorem tc_newa {N n : Nat} {k : Int32} (hC : CT κ own cc nL fr lo mc ms ns) (d : decode cc pc = .ok (.newarray .int, 2)) (hw : Cond.arrayClass .int ∈ tw_tbl) (hk : ¬ k < 0 ∧ k.toNatClampNeg = N ∧ N * 4 ≤ 536870912) (hr : cells + 1 ≤ mc ∧ slots + N ≤ ms) (hn : cs.length = n) (kk : WC κ (pc + 2) loc (.inr n :: st) (cs ++ [.inr (.inl (N, fun _ => 0))]) (cells + 1) (slots + N)) : WC κ pc loc (.inl k :: st) cs cells slots := by
  obtain ⟨⟨p, l, e, R, s, m, args, below, meth, c⟩, ⟨D, b, cI, cR, ex⟩, Q⟩ := κ
  obtain ⟨hx, hb, hml, hown, hts, hK, hR, hcs, hAO, hNS, hbs, hex⟩ := hC
  intro H locs ls hP hS hl
  subst hn
  refine va_newaK (atype := .int) hx hb (hts _ hw) rfl d rfl hk.1 hk.2.1 hk.2.2 (Nat.le_trans hr.1 hcs.1) (Nat.le_trans hr.2 hcs.2) hP.1 fun H1 cA e1 z1 o1 hAr hNm => ?_
  have hcA : cA = cI := Option.some.inj (hNm.symm.trans (hK.2 0 _ rfl).2)
  subst hcA
  have hk2 : ∀ (k : Nat) (x : Nat × va_E), (cw_ws b cA cR cs)[k]? = some x → H1[x.1]? = H[x.1]? := fun k x hx => o1 x.1 (by have := (hP.2 k x hx).lt; rw [hP.1] at this; exact this)
  refine kk H1 locs ls ⟨by rw [z1, List.length_append]; simp; omega, cw_app (hP.2.kept hk2) (fun j c0 hj => ?_)⟩ ⟨Nat.le_trans hS.1 (by rw [z1, hP.1]; omega), fun x h1 h2 => (o1 x (by have := hS.1; have := hP.1; omega)).trans (hS.2.1 x h1 h2), hS.2.2⟩ hl
  have hz : j < 1 := (List.getElem?_eq_some_iff.mp hj).1
  rw [show j = 0 by omega] at hj ⊢
  cases hj
  exact e1
theorem tc_mna {ix N K n : Nat} {x y : Int32} (hC : CT κ own cc nL fr lo mc ms ns) (d : decode cc pc = .ok (.multianewarray ix 2, 4)) (hw : Cond.arrayClass .int ∈ tw_tbl ∧ Cond.classLink own ix ("[" ++ (FieldType.array .int).toString) ∈ tw_tbl) (hk : ¬ x < 0 ∧ ¬ y < 0 ∧ x.toNatClampNeg = N ∧ y.toNatClampNeg = K ∧ N * 4 ≤ 536870912 ∧ K * 4 ≤ 536870912) (hr : cells + (1 + N) ≤ mc ∧ slots + (N + N * K) ≤ ms) (hn : cs.length = n) (kk : WC κ (pc + 4) loc (.inr n :: st) (cs ++ (.inr (.inr (N, n + 1)) :: List.replicate N (.inr (.inl (K, fun _ => 0))))) (cells + 1 + N) (slots + N + N * K)) : WC κ pc loc (.inl y :: .inl x :: st) cs cells slots := by
  obtain ⟨⟨p, l, e, R, s, m, args, below, meth, c⟩, ⟨D, b, cI, cR, ex⟩, Q⟩ := κ
  obtain ⟨hx, hb, hml, hown, hts, hK, hR, hcs, hAO, hNS, hbs, hex⟩ := hC
  intro H locs ls hP hS hl
  subst hn
  obtain ⟨k1, k2, rfl, rfl, k5, k6⟩ := hk
  intro T hT Xs
  obtain ⟨vm₁, cA, comp, -, fA, fC, hO, -, X', step⟩ := Xs.multianewarray2F hx hown (hts _ hw.2) hAO (hts _ hw.1) (g := F0 m pc ls (.int y :: .int x :: st.map (tw_v (fun o => b + o)))) rfl (by rw [hb]; exact d) rfl k1 k2 k5 k6 (Nat.le_trans (Nat.le_mul_of_pos_right _ (by decide)) k6) rfl rfl (Nat.le_trans hr.1 hcs.1) (Nat.le_trans hr.2 hcs.2)
  have hcA : cA = cR := Option.some.inj (fA.symm.trans (hK.2 1 _ rfl).2)
  have hcI : comp = cI := Option.some.inj (fC.symm.trans (hK.2 0 _ rfl).2)
  subst hcA
  subst hcI
  generalize hF : Jvm.Free.Multi.fill (T.setVm vm₁) cA comp x.toNatClampNeg y.toNatClampNeg (defaultValue .int) x.toNatClampNeg = F at X' step
  have hTh : (T.setVm vm₁).heap = H := hT
  obtain ⟨f1, f2, -, -⟩ := Jvm.Free.Multi.fill_facts (T.setVm vm₁) cA comp x.toNatClampNeg y.toNatClampNeg (defaultValue .int) x.toNatClampNeg
  rw [hF, hTh] at f1 f2
  have hold : ∀ q : Nat, q < H.size → F.heap[q]? = H[q]? := fun q hq => by
    have := Jvm.Free.Multi.fill_old (T.setVm vm₁) cA comp x.toNatClampNeg y.toNatClampNeg (defaultValue .int) (a := q) (by rw [hTh]; exact hq) x.toNatClampNeg
    rw [hF, hTh] at this
    exact this
  have hrow : ∀ j : Nat, j < x.toNatClampNeg → F.heap[H.size + 1 + j]? = some (vp_cell comp (y.toNatClampNeg, .inl (fun _ => 0))) := fun j hj => by
    have := Jvm.Free.Multi.fill_inner (T.setVm vm₁) cA comp x.toNatClampNeg y.toNatClampNeg (defaultValue .int) x.toNatClampNeg j hj
    rw [hF, hTh] at this
    rw [this, vp_cell_i, ← arrV_new]
    rfl
  have hout : ∀ i : Nat, Jvm.Free.Multi.outerC cA x.toNatClampNeg H.size i = arrV cA x.toNatClampNeg (fun j => va_rf (if j < i then some (H.size + 1 + j) else none)) := by
    intro i
    induction i with
    | zero =>
      show ({ cls := cA, slots := Array.replicate x.toNatClampNeg .null, vm := .none } : Cell) = _
      rw [arrV_new]
      refine congrArg (arrV cA x.toNatClampNeg) (funext fun j => ?_)
      simp [va_rf]
    | succ i ih =>
      show (Jvm.Free.Multi.outerC cA x.toNatClampNeg H.size i).setSlot i (.ref (H.size + 1 + i)) = _
      rw [ih, arrV_store]
      refine congrArg (arrV cA x.toNatClampNeg) (funext fun j => ?_)
      by_cases e : j = i
      · subst e
        simp [updV, va_rf]
      · by_cases h : j < i
        · simp [updV, e, h, Nat.lt_succ_of_lt h]
        · simp [updV, e, h, show ¬ j < i + 1 by omega]
  have hk2 : ∀ (k : Nat) (q : Nat × va_E), (cw_ws b comp cA cs)[k]? = some q → F.heap[q.1]? = H[q.1]? := fun k q hq => hold q.1 (hP.2 k q hq).lt
  have e0 : T.heap.size = b + cs.length := by rw [hT]; exact hP.1
  have hgo := kk F.heap locs ls ⟨by rw [f1, hP.1, List.length_append, List.length_cons, List.length_replicate]; omega, cw_app (hP.2.kept hk2) (fun j c0 hj => ?_)⟩ ⟨Nat.le_trans hS.1 (by rw [f1]; omega), fun q h1 h2 => (hold q (Nat.lt_of_lt_of_le h1 hS.1)).trans (hS.2.1 q h1 h2), hS.2.2⟩ hl F rfl X'
  · obtain ⟨t, a1, b1⟩ := hgo
    refine ⟨t, step t ?_, b1⟩
    rw [e0]
    exact a1
  · cases j with
    | zero =>
      cases hj
      show F.heap[b + (cs.length + 0)]? = some (vp_cell cA _)
      rw [vp_cell_q, show b + (cs.length + 0) = H.size by rw [hP.1]; omega, f2, hout]
      refine congrArg (fun f => some (arrV cA x.toNatClampNeg f)) (funext fun j => ?_)
      by_cases h : j < x.toNatClampNeg
      · simp only [if_pos h]
        rw [hP.1]
        congr 2
        omega
      · simp only [if_neg h]
    | succ j =>
      rw [List.getElem?_cons_succ, List.getElem?_replicate] at hj
      split at hj
      · rename_i h
        cases hj
        show F.heap[b + (cs.length + (j + 1))]? = some (vp_cell comp _)
        rw [show b + (cs.length + (j + 1)) = H.size + 1 + j by rw [hP.1]; omega]
        exact hrow j h
      · cases hj
theorem tc_go {p : Program} {l : Launch} {e : Env} {R : Room} {s : State} {m : MethodId} {args : Array Value} {below : List Frame} {meth : Method} {c : Code} {H : Heap} {locs : List Loc} {cells slots mc ms : Nat} {Q : State → Prop} {pc : Nat} {ls : Array Slot} {rest st0 : List Value} {a : Array Value} {H0 : Heap} {D : va_G} {b : Nat} {cI cR : ClassId} {cs2 : List CC}
    (hr : va_Run p l e R s m args below meth c H locs cells slots mc ms (F0 m pc ls st0) rest (cw_Q D b cI cR cs2 a) (fun q => b ≤ q)) (hS : va_S (fun q => b ≤ q) H0 H locs)
    (kk : ∀ (H1 : Heap) (locs1 : List Loc), CW D b cI cR cs2 H1 → va_S (fun q => b ≤ q) H0 H1 locs1 → W p l e R s m args below meth c H1 locs1 (cells + mc) (slots + ms) Q (F0 m (pc + 3) ls rest)) : W p l e R s m args below meth c H locs cells slots Q (F0 m pc ls st0) := by
  intro T hT X
  obtain ⟨v, st₀, t, T', L, h0, X', hL, e1, e2, ⟨hv, hp, hz, hk⟩, st⟩ := hr T hT X
  cases hv
  rw [h0] at hz hk
  obtain ⟨t2, a1, b1⟩ := kk T'.heap (locs ++ L) (by rw [e1]; exact hp)
    ⟨Nat.le_trans hS.1 (by rw [e1]; exact hz), fun q h1 h2 => by rw [e1, hk q (Nat.lt_of_lt_of_le h1 hS.1) h2]; exact hS.2.1 q h1 h2, fun q hq => by
      rcases List.mem_append.mp hq with h | h
      · exact hS.2.2 q h
      · exact hL q h⟩ T' rfl X'
  exact ⟨t2, st t2 a1, b1⟩
theorem tc_init {ix o fr2 lo2 mc2 ms2 : Nat} {i : TMI} {As stk : List TV} {cs2 : List CC} (hC : CT κ own cc nL fr lo mc ms ns) (d : decode cc pc = .ok (.invokespecial ix, 3)) (hi : i.2.2.2 = none ∧ i.1.name = "<init>") (hw : Cond.code i.1 i.2.1 i.2.2.1 i.2.2.2 ∈ tw_tbl ∧ Cond.initialized i.1.cls ∈ tw_tbl ∧ (i.1.cls ≠ "java/lang/invoke/MethodHandle" ∧ i.1.cls ≠ "java/lang/invoke/VarHandle" ∧ (parseMethodDescriptor i.1.desc).map (fun d => d.parameters.length) = some As.length)) (hv : Cond.instanceMethod i.1 ∈ tw_tbl) (hl : Cond.methodLink own ix i.1 ∈ tw_tbl ∨ ∃ host, (own, ix, i.1, host) ∈ ns) (hrm : fr2 + 1 ≤ fr ∧ 8 + (i.2.2.1 + 11) + lo2 ≤ lo ∧ st.length ≤ 8) (hcr : cells + mc2 ≤ mc ∧ slots + ms2 ≤ ms) (hst : As.reverse ++ .inr o :: st = stk) (hM : CMet κ.1.2.1 i fr2 lo2 mc2 ms2 ns (.inr o :: As) cs cs2) (kk : WC κ (pc + 3) loc st cs2 (cells + mc2) (slots + ms2)) : WC κ pc loc stk cs cells slots := by
  obtain ⟨⟨p, l, e, R, s, m, args, below, meth, c⟩, ⟨D, b, cI, cR, ex⟩, Q⟩ := κ
  obtain ⟨hx, hb, hml, hown, hts, hK, hR, hcs, hAO, hNS, hbs, hex⟩ := hC
  intro H locs ls hP hS hlv
  subst hst
  obtain ⟨w1, w2, w4⟩ := hw
  obtain ⟨hi1, hi2⟩ := hi
  have hsum : ((st.map (tw_v (fun o => b + o))).map fun v => v.category).sum = st.length := tw_sum st
  have hpre : PreS s H (cw_Pc D b cI cR ns (.inr o :: As) cs) (.ref (b + o) :: As.map (tw_v (fun o => b + o))) := ⟨cw_blind, fun U hU hW => ⟨rfl, by rw [hU]; exact hP, va_K.moved hW.alike hK, arrayOver_alikeB hW.alike hAO, fun q hq => (hNS q hq).warmM hW⟩⟩
  have w1' : Cond.code i.1 i.2.1 i.2.2.1 none ∈ tw_tbl := by rw [← hi1]; exact w1
  have hws : mi_ws i = Cond.code i.1 i.2.1 i.2.2.1 none :: tw_tbl := by unfold mi_ws; rw [hi1]
  rcases hl with h1 | ⟨host, h1⟩
  · have run := va_runI (rest := st.map (tw_v (fun o => b + o))) (As := As.map (tw_v (fun o => b + o))) (b := b + o) (g := F0 m pc ls ((As.reverse ++ .inr o :: st).map (tw_v (fun o => b + o)))) (H := H) (locs := locs) (cells := cells) (slots := slots) (below := below) (meth := meth) (e := e) (R := R) ⟨hx, hb, rfl, hown, hts⟩ (hM D b cI cR)
      ⟨callB_of (bytes := i.2.1) (maxL := i.2.2.1) (ret := none) As.length hts (mi_good w1) hws rfl rfl (hts _ w2) (hts _ h1) w4 ⟨Nat.le_trans hrm.1 hR.1, Nat.le_trans hrm.2.1 hR.2⟩, hi2, hts _ hv⟩
      hpre rfl (by rw [List.length_map]) hlv.1 (by simp [tw_v]) (lv_room (by rw [hsum]; exact hrm.2.2)) d ⟨Nat.le_trans hcr.1 hcs.1, Nat.le_trans hcr.2 hcs.2⟩
    exact tc_go run hS (fun H1 locs1 hP1 hS1 => kk H1 locs1 ls hP1 hS1 hlv)
  · have run := va_runIN (host := host) (rest := st.map (tw_v (fun o => b + o))) (As := As.map (tw_v (fun o => b + o))) (b := b + o) (g := F0 m pc ls ((As.reverse ++ .inr o :: st).map (tw_v (fun o => b + o)))) (H := H) (locs := locs) (cells := cells) (slots := slots) (below := below) (meth := meth) (e := e) (R := R) ⟨hx, hb, rfl, hown, hts⟩ (hM D b cI cR)
      ⟨va_cnB (bytes := i.2.1) (maxL := i.2.2.1) (ret := none) As.length hts (mi_good w1) hws rfl rfl (hNS _ h1) (hts _ w2) w4 ⟨Nat.le_trans hrm.1 hR.1, Nat.le_trans hrm.2.1 hR.2⟩, hi2, hts _ hv⟩
      hpre rfl (by rw [List.length_map]) hlv.1 (by simp [tw_v]) (lv_room (by rw [hsum]; exact hrm.2.2)) d ⟨Nat.le_trans hcr.1 hcs.1, Nat.le_trans hcr.2 hcs.2⟩
    exact tc_go run hS (fun H1 locs1 hP1 hS1 => kk H1 locs1 ls hP1 hS1 hlv)
theorem tc_static {ix fr2 lo2 : Nat} {i : TMI} {As stk : List TV} {cs2 : List CC} (hC : CT κ own cc nL fr lo mc ms ns) (d : decode cc pc = .ok (.invokestatic ix, 3)) (hw : MCW own ix i As.length) (hv : Cond.static i.1 ∈ tw_tbl) (hrm : fr2 + 1 ≤ fr ∧ 8 + (i.2.2.1 + 11) + lo2 ≤ lo ∧ st.length ≤ 8) (hcr : cells ≤ mc ∧ slots ≤ ms) (hst : As.reverse ++ st = stk) (hM : CMet κ.1.2.1 i fr2 lo2 0 0 ns As cs cs2) (kk : WC κ (pc + 3) loc st cs2 cells slots) : WC κ pc loc stk cs cells slots := by
  obtain ⟨⟨p, l, e, R, s, m, args, below, meth, c⟩, ⟨D, b, cI, cR, ex⟩, Q⟩ := κ
  obtain ⟨hx, hb, hml, hown, hts, hK, hR, hcs, hAO, hNS, hbs, hex⟩ := hC
  intro H locs ls hP hS hlv
  subst hst
  obtain ⟨w1, w2, w3, w4⟩ := hw
  have hsum : ((st.map (tw_v (fun o => b + o))).map fun v => v.category).sum = st.length := tw_sum st
  have hpre : PreS s H (cw_Pc D b cI cR ns As cs) (As.map (tw_v (fun o => b + o))) := ⟨cw_blind, fun U hU hW => ⟨rfl, by rw [hU]; exact hP, va_K.moved hW.alike hK, arrayOver_alikeB hW.alike hAO, fun q hq => (hNS q hq).warmM hW⟩⟩
  have run := va_runS (rest := st.map (tw_v (fun o => b + o))) (As := As.map (tw_v (fun o => b + o))) (g := F0 m pc ls ((As.reverse ++ st).map (tw_v (fun o => b + o)))) (H := H) (locs := locs) (cells := cells) (slots := slots) (below := below) (meth := meth) (e := e) (R := R) ⟨hx, hb, rfl, hown, hts⟩ (hM D b cI cR)
    ⟨callB_of (bytes := i.2.1) (maxL := i.2.2.1) (ret := i.2.2.2) As.length hts (mi_good w1) rfl rfl rfl (hts _ w2) (hts _ w3) w4 ⟨Nat.le_trans hrm.1 hR.1, Nat.le_trans hrm.2.1 hR.2⟩, hts _ hv⟩
    hpre rfl (by rw [List.length_map]) hlv.1 (by simp) (lv_room (by rw [hsum]; exact hrm.2.2)) d ⟨Nat.le_trans hcr.1 hcs.1, Nat.le_trans hcr.2 hcs.2⟩
  exact tc_go run hS (fun H1 locs1 hP1 hS1 => kk H1 locs1 ls hP1 hS1 hlv)
theorem tc_ret {κ : CX} {own : String} {cc : ByteArray} {nL fr lo mc ms pc cells slots : Nat} {ns : NS} {loc : TL} {cs : List CC} (hC : CT κ own cc nL fr lo mc ms ns) (hT : CR κ mc ms cs) (d : decode cc pc = .ok (.return_, 1)) (hr : cells ≤ mc ∧ slots ≤ ms) : WC κ pc loc [] cs cells slots := by
  obtain ⟨⟨p, l, e, R, s, m, args, below, meth, c⟩, ⟨D, b, cI, cR, ex⟩, Q⟩ := κ
  obtain ⟨hx, hb, hml, hown, hts, hK, hR, hcs, hAO, hNS, hbs, hex⟩ := hC
  obtain ⟨hrt, hlocks, rfl⟩ := hT
  intro H locs ls hP hS hlv
  refine W.widen (k := mc) (n := ms) hr.1 hr.2 ?_
  exact W.vret hx hb hrt (fun t ht hW => ⟨rfl, by rw [ht]; exact hP, hS.F ht⟩) hS.2.2 d
end CROWS2

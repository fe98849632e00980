theorem tw_sum {ρ : Nat → Nat} (st : List TV) : ((st.map (tw_v ρ)).map fun v => v.category).sum = st.length := by
  induction st with
  | nil => rfl
  | cons v r ih => simp only [List.map_cons, List.sum_cons, List.length_cons, tw_v_cat, ih]; omega
theorem tw_go {p : Program} {l : Launch} {e : Env} {R : Room} {s : State} {m : MethodId} {args : Array Value} {below : List Frame} {meth : Method} {c : Code} {H : Heap} {locs : List Loc} {cells slots : Nat} {Q : State → Prop} {pc : Nat} {ls : Array Slot} {rest st0 : List Value} {a : Array Value} {A : Nat → Prop} {H0 : Heap} {D : va_G} {ρ : Nat → Nat} {cI cR : ClassId} {post : Option TV → TMem → Prop}
    (hr : va_Run p l e R s m args below meth c H locs cells slots 0 0 (F0 m pc ls st0) rest (tw_Q D ρ cI cR post a) (tw_A ρ)) (hS : va_S A H0 H locs) (hA : ∀ q, tw_A ρ q → A q)
    (kk : ∀ (r : Option TV) (mem' : TMem) (H1 : Heap) (locs1 : List Loc), post r mem' → va_P D vwCl (tw_ws ρ cI cR mem') H1 → va_S A H0 H1 locs1 → W p l e R s m args below meth c H1 locs1 cells slots Q (F0 m (pc + 3) ls ((r.map (tw_v ρ)).toList ++ rest))) : W p l e R s m args below meth c H locs cells slots Q (F0 m pc ls st0) := by
  intro T hT X
  obtain ⟨v, st₀, t, T', L, h0, X', hL, e1, e2, ⟨⟨r, mem', hv, hp, hb⟩, hz, hk⟩, st⟩ := hr T hT X
  cases hv
  rw [h0] at hz hk
  obtain ⟨t2, a1, b1⟩ := kk r mem' T'.heap (locs ++ L) hp (by rw [e1]; exact hb)
    ⟨Nat.le_trans hS.1 (by rw [e1]; exact hz), fun q h1 h2 => by rw [e1, hk q (Nat.lt_of_lt_of_le h1 hS.1) (fun z => h2 (hA q z))]; exact hS.2.1 q h1 h2, fun q hq => by
      rcases List.mem_append.mp hq with h | h
      · exact hS.2.2 q h
      · exact hA _ (hL q h)⟩ T' rfl X'
  exact ⟨t2, st t2 a1, b1⟩
/-- what the tables say of a method that is called -/
def MCW (own : String) (ix : Nat) (i : TMI) (n : Nat) : Prop := Cond.code i.1 i.2.1 i.2.2.1 i.2.2.2 ∈ tw_tbl ∧ Cond.initialized i.1.cls ∈ tw_tbl ∧ Cond.methodLink own ix i.1 ∈ tw_tbl ∧ (i.1.cls ≠ "java/lang/invoke/MethodHandle" ∧ i.1.cls ≠ "java/lang/invoke/VarHandle" ∧ (parseMethodDescriptor i.1.desc).map (fun d => d.parameters.length) = some n)
theorem mi_good {i : TMI} (h : Cond.code i.1 i.2.1 i.2.2.1 i.2.2.2 ∈ tw_tbl) : GoodIn tw_tbl (mi_ws i) := fun w hw => by
  rcases List.mem_cons.mp hw with rfl | hw
  · exact tb_in _ h
  · exact tb_in _ hw
theorem tr_iconst {κ : TCx} {own : String} {cc : ByteArray} {nL fr lo pc : Nat} {loc : TL} {st : List TV} {mem : TMem} {n : Int} {v : Int32} (hC : TC κ own cc nL fr lo) (d : decode cc pc = .ok (.iconst n, 1)) (hv : Int32.ofInt n = v) (k : WT κ (pc + 1) loc (.inl v :: st) mem) : WT κ pc loc st mem := by
  obtain ⟨⟨p, l, e, R, s, m, args, below, meth, c⟩, ⟨D, ρ, cI, cR, A⟩, ⟨cells, slots, Q⟩⟩ := κ
  obtain ⟨hx, hb, hml, hown, hts, hK, hD, hR, hcs⟩ := hC
  intro H locs ls hP hS hl
  exact lv_iconst hx hb d hv (k H locs ls hP hS hl)
theorem tr_bipush {κ : TCx} {own : String} {cc : ByteArray} {nL fr lo pc : Nat} {loc : TL} {st : List TV} {mem : TMem} {n : Int} {v : Int32} (hC : TC κ own cc nL fr lo) (d : decode cc pc = .ok (.bipush n, 2)) (hv : (Int8.ofInt n).toInt32 = v) (k : WT κ (pc + 2) loc (.inl v :: st) mem) : WT κ pc loc st mem := by
  obtain ⟨⟨p, l, e, R, s, m, args, below, meth, c⟩, ⟨D, ρ, cI, cR, A⟩, ⟨cells, slots, Q⟩⟩ := κ
  obtain ⟨hx, hb, hml, hown, hts, hK, hD, hR, hcs⟩ := hC
  intro H locs ls hP hS hl
  exact lv_bipush hx hb d hv (k H locs ls hP hS hl)
theorem tr_sipush {κ : TCx} {own : String} {cc : ByteArray} {nL fr lo pc : Nat} {loc : TL} {st : List TV} {mem : TMem} {n : Int} {v : Int32} (hC : TC κ own cc nL fr lo) (d : decode cc pc = .ok (.sipush n, 3)) (hv : (Int16.ofInt n).toInt32 = v) (k : WT κ (pc + 3) loc (.inl v :: st) mem) : WT κ pc loc st mem := by
  obtain ⟨⟨p, l, e, R, s, m, args, below, meth, c⟩, ⟨D, ρ, cI, cR, A⟩, ⟨cells, slots, Q⟩⟩ := κ
  obtain ⟨hx, hb, hml, hown, hts, hK, hD, hR, hcs⟩ := hC
  intro H locs ls hP hS hl
  exact lv_sipush hx hb d hv (k H locs ls hP hS hl)
theorem tr_ldc {κ : TCx} {own : String} {cc : ByteArray} {nL fr lo pc : Nat} {loc : TL} {st : List TV} {mem : TMem} {ix : Nat} {v : Int32} (hC : TC κ own cc nL fr lo) (d : decode cc pc = .ok (.ldc ix, 2)) (hw : Cond.constant own ix v ∈ tw_tbl) (k : WT κ (pc + 2) loc (.inl v :: st) mem) : WT κ pc loc st mem := by
  obtain ⟨⟨p, l, e, R, s, m, args, below, meth, c⟩, ⟨D, ρ, cI, cR, A⟩, ⟨cells, slots, Q⟩⟩ := κ
  obtain ⟨hx, hb, hml, hown, hts, hK, hD, hR, hcs⟩ := hC
  intro H locs ls hP hS hl
  exact lv_ldc hx hb hown (hts _ hw) d (k H locs ls hP hS hl)
theorem tr_iload_n {κ : TCx} {own : String} {cc : ByteArray} {nL fr lo pc : Nat} {loc : TL} {st : List TV} {mem : TMem} {j : Fin 4} {i : Nat} {x : Int32} (hC : TC κ own cc nL fr lo) (d : decode cc pc = .ok (.iload_n j, 1)) (hi : (j : Nat) = i) (hv : loc[i]? = some (some (.inl x))) (k : WT κ (pc + 1) loc (.inl x :: st) mem) : WT κ pc loc st mem := by
  obtain ⟨⟨p, l, e, R, s, m, args, below, meth, c⟩, ⟨D, ρ, cI, cR, A⟩, ⟨cells, slots, Q⟩⟩ := κ
  obtain ⟨hx, hb, hml, hown, hts, hK, hD, hR, hcs⟩ := hC
  intro H locs ls hP hS hl
  exact lv_iload_n hx hb d hi (tw_has_at hl hv) (k H locs ls hP hS hl)
theorem tr_iload {κ : TCx} {own : String} {cc : ByteArray} {nL fr lo pc : Nat} {loc : TL} {st : List TV} {mem : TMem} {i : Nat} {x : Int32} (hC : TC κ own cc nL fr lo) (d : decode cc pc = .ok (.iload i, 2)) (hv : loc[i]? = some (some (.inl x))) (k : WT κ (pc + 2) loc (.inl x :: st) mem) : WT κ pc loc st mem := by
  obtain ⟨⟨p, l, e, R, s, m, args, below, meth, c⟩, ⟨D, ρ, cI, cR, A⟩, ⟨cells, slots, Q⟩⟩ := κ
  obtain ⟨hx, hb, hml, hown, hts, hK, hD, hR, hcs⟩ := hC
  intro H locs ls hP hS hl
  exact lv_iload hx hb d (tw_has_at hl hv) (k H locs ls hP hS hl)
theorem tr_istore_n {κ : TCx} {own : String} {cc : ByteArray} {nL fr lo pc : Nat} {loc : TL} {st : List TV} {mem : TMem} {j : Fin 4} {i : Nat} {x : Int32} {loc2 : TL} (hC : TC κ own cc nL fr lo) (d : decode cc pc = .ok (.istore_n j, 1)) (hi : (j : Nat) = i) (hn : i < nL) (h2 : loc.set i (some (.inl x)) = loc2) (k : WT κ (pc + 1) loc2 st mem) : WT κ pc loc (.inl x :: st) mem := by
  obtain ⟨⟨p, l, e, R, s, m, args, below, meth, c⟩, ⟨D, ρ, cI, cR, A⟩, ⟨cells, slots, Q⟩⟩ := κ
  obtain ⟨hx, hb, hml, hown, hts, hK, hD, hR, hcs⟩ := hC
  intro H locs ls hP hS hl
  subst h2
  exact lv_istore_n hx hb d hi hl (by rw [hml]; exact hn) rfl (fun ls2 h2 => k H locs ls2 hP hS (tw_has_set (v := .inl x) h2))
theorem tr_istore {κ : TCx} {own : String} {cc : ByteArray} {nL fr lo pc : Nat} {loc : TL} {st : List TV} {mem : TMem} {i : Nat} {x : Int32} {loc2 : TL} (hC : TC κ own cc nL fr lo) (d : decode cc pc = .ok (.istore i, 2)) (hn : i < nL) (h2 : loc.set i (some (.inl x)) = loc2) (k : WT κ (pc + 2) loc2 st mem) : WT κ pc loc (.inl x :: st) mem := by
  obtain ⟨⟨p, l, e, R, s, m, args, below, meth, c⟩, ⟨D, ρ, cI, cR, A⟩, ⟨cells, slots, Q⟩⟩ := κ
  obtain ⟨hx, hb, hml, hown, hts, hK, hD, hR, hcs⟩ := hC
  intro H locs ls hP hS hl
  subst h2
  exact lv_istore hx hb d hl (by rw [hml]; exact hn) rfl (fun ls2 h2 => k H locs ls2 hP hS (tw_has_set (v := .inl x) h2))
theorem tr_aload_n {κ : TCx} {own : String} {cc : ByteArray} {nL fr lo pc : Nat} {loc : TL} {st : List TV} {mem : TMem} {j : Fin 4} {i : Nat} {x : Nat} (hC : TC κ own cc nL fr lo) (d : decode cc pc = .ok (.aload_n j, 1)) (hi : (j : Nat) = i) (hv : loc[i]? = some (some (.inr x))) (k : WT κ (pc + 1) loc (.inr x :: st) mem) : WT κ pc loc st mem := by
  obtain ⟨⟨p, l, e, R, s, m, args, below, meth, c⟩, ⟨D, ρ, cI, cR, A⟩, ⟨cells, slots, Q⟩⟩ := κ
  obtain ⟨hx, hb, hml, hown, hts, hK, hD, hR, hcs⟩ := hC
  intro H locs ls hP hS hl
  exact lv_aload_n hx hb d hi (tw_has_at hl hv) (k H locs ls hP hS hl)
theorem tr_aload {κ : TCx} {own : String} {cc : ByteArray} {nL fr lo pc : Nat} {loc : TL} {st : List TV} {mem : TMem} {i : Nat} {x : Nat} (hC : TC κ own cc nL fr lo) (d : decode cc pc = .ok (.aload i, 2)) (hv : loc[i]? = some (some (.inr x))) (k : WT κ (pc + 2) loc (.inr x :: st) mem) : WT κ pc loc st mem := by
  obtain ⟨⟨p, l, e, R, s, m, args, below, meth, c⟩, ⟨D, ρ, cI, cR, A⟩, ⟨cells, slots, Q⟩⟩ := κ
  obtain ⟨hx, hb, hml, hown, hts, hK, hD, hR, hcs⟩ := hC
  intro H locs ls hP hS hl
  exact lv_aload hx hb d (tw_has_at hl hv) (k H locs ls hP hS hl)
theorem tr_astore_n {κ : TCx} {own : String} {cc : ByteArray} {nL fr lo pc : Nat} {loc : TL} {st : List TV} {mem : TMem} {j : Fin 4} {i : Nat} {x : Nat} {loc2 : TL} (hC : TC κ own cc nL fr lo) (d : decode cc pc = .ok (.astore_n j, 1)) (hi : (j : Nat) = i) (hn : i < nL) (h2 : loc.set i (some (.inr x)) = loc2) (k : WT κ (pc + 1) loc2 st mem) : WT κ pc loc (.inr x :: st) mem := by
  obtain ⟨⟨p, l, e, R, s, m, args, below, meth, c⟩, ⟨D, ρ, cI, cR, A⟩, ⟨cells, slots, Q⟩⟩ := κ
  obtain ⟨hx, hb, hml, hown, hts, hK, hD, hR, hcs⟩ := hC
  intro H locs ls hP hS hl
  subst h2
  exact lv_astore_n hx hb d hi hl (by rw [hml]; exact hn) rfl (fun ls2 h2 => k H locs ls2 hP hS (tw_has_set (v := .inr x) h2))
theorem tr_astore {κ : TCx} {own : String} {cc : ByteArray} {nL fr lo pc : Nat} {loc : TL} {st : List TV} {mem : TMem} {i : Nat} {x : Nat} {loc2 : TL} (hC : TC κ own cc nL fr lo) (d : decode cc pc = .ok (.astore i, 2)) (hn : i < nL) (h2 : loc.set i (some (.inr x)) = loc2) (k : WT κ (pc + 2) loc2 st mem) : WT κ pc loc (.inr x :: st) mem := by
  obtain ⟨⟨p, l, e, R, s, m, args, below, meth, c⟩, ⟨D, ρ, cI, cR, A⟩, ⟨cells, slots, Q⟩⟩ := κ
  obtain ⟨hx, hb, hml, hown, hts, hK, hD, hR, hcs⟩ := hC
  intro H locs ls hP hS hl
  subst h2
  exact lv_astore hx hb d hl (by rw [hml]; exact hn) rfl (fun ls2 h2 => k H locs ls2 hP hS (tw_has_set (v := .inr x) h2))
theorem tr_iinc {κ : TCx} {own : String} {cc : ByteArray} {nL fr lo pc : Nat} {loc : TL} {st : List TV} {mem : TMem} {i : Nat} {n : Int} {x v : Int32} {loc2 : TL} (hC : TC κ own cc nL fr lo) (d : decode cc pc = .ok (.iinc i n, 3)) (hx0 : loc[i]? = some (some (.inl x))) (hv : x + Int32.ofInt n = v) (hn : i < nL) (h2 : loc.set i (some (.inl v)) = loc2) (k : WT κ (pc + 3) loc2 st mem) : WT κ pc loc st mem := by
  obtain ⟨⟨p, l, e, R, s, m, args, below, meth, c⟩, ⟨D, ρ, cI, cR, A⟩, ⟨cells, slots, Q⟩⟩ := κ
  obtain ⟨hx, hb, hml, hown, hts, hK, hD, hR, hcs⟩ := hC
  intro H locs ls hP hS hl
  subst h2
  obtain ⟨j, hj⟩ := List.getElem?_of_mem (tw_l_in (ρ := ρ) (k := 0) hx0)
  rw [Nat.zero_add] at hj
  exact lv_iinc hx hb d hl hj hv (by rw [hml]; exact hn) rfl (fun ls2 h2 => k H locs ls2 hP hS (tw_has_set (v := .inl v) h2))
theorem tr_iadd {κ : TCx} {own : String} {cc : ByteArray} {nL fr lo pc : Nat} {loc : TL} {st : List TV} {mem : TMem} {x y : Int32} (hC : TC κ own cc nL fr lo) (d : decode cc pc = .ok (.iadd, 1)) (k : WT κ (pc + 1) loc (.inl (x + y) :: st) mem) : WT κ pc loc (.inl y :: .inl x :: st) mem := by
  obtain ⟨⟨p, l, e, R, s, m, args, below, meth, c⟩, ⟨D, ρ, cI, cR, A⟩, ⟨cells, slots, Q⟩⟩ := κ
  obtain ⟨hx, hb, hml, hown, hts, hK, hD, hR, hcs⟩ := hC
  intro H locs ls hP hS hl
  exact lv_iadd hx hb d (k H locs ls hP hS hl)
theorem tr_isub {κ : TCx} {own : String} {cc : ByteArray} {nL fr lo pc : Nat} {loc : TL} {st : List TV} {mem : TMem} {x y : Int32} (hC : TC κ own cc nL fr lo) (d : decode cc pc = .ok (.isub, 1)) (k : WT κ (pc + 1) loc (.inl (x - y) :: st) mem) : WT κ pc loc (.inl y :: .inl x :: st) mem := by
  obtain ⟨⟨p, l, e, R, s, m, args, below, meth, c⟩, ⟨D, ρ, cI, cR, A⟩, ⟨cells, slots, Q⟩⟩ := κ
  obtain ⟨hx, hb, hml, hown, hts, hK, hD, hR, hcs⟩ := hC
  intro H locs ls hP hS hl
  exact lv_isub hx hb d (k H locs ls hP hS hl)
theorem tr_imul {κ : TCx} {own : String} {cc : ByteArray} {nL fr lo pc : Nat} {loc : TL} {st : List TV} {mem : TMem} {x y : Int32} (hC : TC κ own cc nL fr lo) (d : decode cc pc = .ok (.imul, 1)) (k : WT κ (pc + 1) loc (.inl (x * y) :: st) mem) : WT κ pc loc (.inl y :: .inl x :: st) mem := by
  obtain ⟨⟨p, l, e, R, s, m, args, below, meth, c⟩, ⟨D, ρ, cI, cR, A⟩, ⟨cells, slots, Q⟩⟩ := κ
  obtain ⟨hx, hb, hml, hown, hts, hK, hD, hR, hcs⟩ := hC
  intro H locs ls hP hS hl
  exact lv_imul hx hb d (k H locs ls hP hS hl)
theorem tr_iand {κ : TCx} {own : String} {cc : ByteArray} {nL fr lo pc : Nat} {loc : TL} {st : List TV} {mem : TMem} {x y : Int32} (hC : TC κ own cc nL fr lo) (d : decode cc pc = .ok (.iand, 1)) (k : WT κ (pc + 1) loc (.inl (x &&& y) :: st) mem) : WT κ pc loc (.inl y :: .inl x :: st) mem := by
  obtain ⟨⟨p, l, e, R, s, m, args, below, meth, c⟩, ⟨D, ρ, cI, cR, A⟩, ⟨cells, slots, Q⟩⟩ := κ
  obtain ⟨hx, hb, hml, hown, hts, hK, hD, hR, hcs⟩ := hC
  intro H locs ls hP hS hl
  exact lv_iand hx hb d (k H locs ls hP hS hl)
theorem tr_idiv {κ : TCx} {own : String} {cc : ByteArray} {nL fr lo pc : Nat} {loc : TL} {st : List TV} {mem : TMem} {x y : Int32} (hC : TC κ own cc nL fr lo) (d : decode cc pc = .ok (.idiv, 1)) (hne : ¬ y = 0) (k : WT κ (pc + 1) loc (.inl (x / y) :: st) mem) : WT κ pc loc (.inl y :: .inl x :: st) mem := by
  obtain ⟨⟨p, l, e, R, s, m, args, below, meth, c⟩, ⟨D, ρ, cI, cR, A⟩, ⟨cells, slots, Q⟩⟩ := κ
  obtain ⟨hx, hb, hml, hown, hts, hK, hD, hR, hcs⟩ := hC
  intro H locs ls hP hS hl
  exact lv_idiv hx hb d hne (k H locs ls hP hS hl)
theorem tr_irem {κ : TCx} {own : String} {cc : ByteArray} {nL fr lo pc : Nat} {loc : TL} {st : List TV} {mem : TMem} {x y : Int32} (hC : TC κ own cc nL fr lo) (d : decode cc pc = .ok (.irem, 1)) (hne : ¬ y = 0) (k : WT κ (pc + 1) loc (.inl (x - x / y * y) :: st) mem) : WT κ pc loc (.inl y :: .inl x :: st) mem := by
  obtain ⟨⟨p, l, e, R, s, m, args, below, meth, c⟩, ⟨D, ρ, cI, cR, A⟩, ⟨cells, slots, Q⟩⟩ := κ
  obtain ⟨hx, hb, hml, hown, hts, hK, hD, hR, hcs⟩ := hC
  intro H locs ls hP hS hl
  exact lv_irem hx hb d hne (k H locs ls hP hS hl)
theorem tr_dup {κ : TCx} {own : String} {cc : ByteArray} {nL fr lo pc : Nat} {loc : TL} {st : List TV} {mem : TMem} {v : TV} (hC : TC κ own cc nL fr lo) (d : decode cc pc = .ok (.dup, 1)) (k : WT κ (pc + 1) loc (v :: v :: st) mem) : WT κ pc loc (v :: st) mem := by
  obtain ⟨⟨p, l, e, R, s, m, args, below, meth, c⟩, ⟨D, ρ, cI, cR, A⟩, ⟨cells, slots, Q⟩⟩ := κ
  obtain ⟨hx, hb, hml, hown, hts, hK, hD, hR, hcs⟩ := hC
  intro H locs ls hP hS hl
  exact lv_dup hx hb d (tw_v_cat ρ v) (k H locs ls hP hS hl)
theorem tr_dup2 {κ : TCx} {own : String} {cc : ByteArray} {nL fr lo pc : Nat} {loc : TL} {st : List TV} {mem : TMem} {v w : TV} (hC : TC κ own cc nL fr lo) (d : decode cc pc = .ok (.dup2, 1)) (k : WT κ (pc + 1) loc (v :: w :: v :: w :: st) mem) : WT κ pc loc (v :: w :: st) mem := by
  obtain ⟨⟨p, l, e, R, s, m, args, below, meth, c⟩, ⟨D, ρ, cI, cR, A⟩, ⟨cells, slots, Q⟩⟩ := κ
  obtain ⟨hx, hb, hml, hown, hts, hK, hD, hR, hcs⟩ := hC
  intro H locs ls hP hS hl
  exact lv_dup2_11 hx hb d (tw_v_cat ρ v) (tw_v_cat ρ w) (k H locs ls hP hS hl)
theorem tr_icmp_eq {κ : TCx} {own : String} {cc : ByteArray} {nL fr lo pc : Nat} {loc : TL} {st : List TV} {mem : TMem} {x y : Int32} {off : Int} {tgt : Nat} (hC : TC κ own cc nL fr lo) (d : decode cc pc = .ok (.if_icmp .eq off, 3)) (ht : (pc : Int) + off = (tgt : Int)) (kt : x = y → WT κ tgt loc st mem) (kf : ¬ (x = y) → WT κ (pc + 3) loc st mem) : WT κ pc loc (.inl y :: .inl x :: st) mem := by
  obtain ⟨⟨p, l, e, R, s, m, args, below, meth, c⟩, ⟨D, ρ, cI, cR, A⟩, ⟨cells, slots, Q⟩⟩ := κ
  obtain ⟨hx, hb, hml, hown, hts, hK, hD, hR, hcs⟩ := hC
  intro H locs ls hP hS hl
  exact lv_icmp_eq hx hb d ht (fun h => kt h H locs ls hP hS hl) (fun h => kf h H locs ls hP hS hl)
theorem tr_if_eq {κ : TCx} {own : String} {cc : ByteArray} {nL fr lo pc : Nat} {loc : TL} {st : List TV} {mem : TMem} {x : Int32} {off : Int} {tgt : Nat} (hC : TC κ own cc nL fr lo) (d : decode cc pc = .ok (.ifCond .eq off, 3)) (ht : (pc : Int) + off = (tgt : Int)) (kt : x = 0 → WT κ tgt loc st mem) (kf : ¬ (x = 0) → WT κ (pc + 3) loc st mem) : WT κ pc loc (.inl x :: st) mem := by
  obtain ⟨⟨p, l, e, R, s, m, args, below, meth, c⟩, ⟨D, ρ, cI, cR, A⟩, ⟨cells, slots, Q⟩⟩ := κ
  obtain ⟨hx, hb, hml, hown, hts, hK, hD, hR, hcs⟩ := hC
  intro H locs ls hP hS hl
  exact lv_if_eq hx hb d ht (fun h => kt h H locs ls hP hS hl) (fun h => kf h H locs ls hP hS hl)
theorem tr_icmp_ne {κ : TCx} {own : String} {cc : ByteArray} {nL fr lo pc : Nat} {loc : TL} {st : List TV} {mem : TMem} {x y : Int32} {off : Int} {tgt : Nat} (hC : TC κ own cc nL fr lo) (d : decode cc pc = .ok (.if_icmp .ne off, 3)) (ht : (pc : Int) + off = (tgt : Int)) (kt : ¬ x = y → WT κ tgt loc st mem) (kf : x = y → WT κ (pc + 3) loc st mem) : WT κ pc loc (.inl y :: .inl x :: st) mem := by
  obtain ⟨⟨p, l, e, R, s, m, args, below, meth, c⟩, ⟨D, ρ, cI, cR, A⟩, ⟨cells, slots, Q⟩⟩ := κ
  obtain ⟨hx, hb, hml, hown, hts, hK, hD, hR, hcs⟩ := hC
  intro H locs ls hP hS hl
  exact lv_icmp_ne hx hb d ht (fun h => kt h H locs ls hP hS hl) (fun h => kf h H locs ls hP hS hl)
theorem tr_if_ne {κ : TCx} {own : String} {cc : ByteArray} {nL fr lo pc : Nat} {loc : TL} {st : List TV} {mem : TMem} {x : Int32} {off : Int} {tgt : Nat} (hC : TC κ own cc nL fr lo) (d : decode cc pc = .ok (.ifCond .ne off, 3)) (ht : (pc : Int) + off = (tgt : Int)) (kt : ¬ x = 0 → WT κ tgt loc st mem) (kf : x = 0 → WT κ (pc + 3) loc st mem) : WT κ pc loc (.inl x :: st) mem := by
  obtain ⟨⟨p, l, e, R, s, m, args, below, meth, c⟩, ⟨D, ρ, cI, cR, A⟩, ⟨cells, slots, Q⟩⟩ := κ
  obtain ⟨hx, hb, hml, hown, hts, hK, hD, hR, hcs⟩ := hC
  intro H locs ls hP hS hl
  exact lv_if_ne hx hb d ht (fun h => kt h H locs ls hP hS hl) (fun h => kf h H locs ls hP hS hl)
theorem tr_icmp_lt {κ : TCx} {own : String} {cc : ByteArray} {nL fr lo pc : Nat} {loc : TL} {st : List TV} {mem : TMem} {x y : Int32} {off : Int} {tgt : Nat} (hC : TC κ own cc nL fr lo) (d : decode cc pc = .ok (.if_icmp .lt off, 3)) (ht : (pc : Int) + off = (tgt : Int)) (kt : x < y → WT κ tgt loc st mem) (kf : ¬ (x < y) → WT κ (pc + 3) loc st mem) : WT κ pc loc (.inl y :: .inl x :: st) mem := by
  obtain ⟨⟨p, l, e, R, s, m, args, below, meth, c⟩, ⟨D, ρ, cI, cR, A⟩, ⟨cells, slots, Q⟩⟩ := κ
  obtain ⟨hx, hb, hml, hown, hts, hK, hD, hR, hcs⟩ := hC
  intro H locs ls hP hS hl
  exact lv_icmp_lt hx hb d ht (fun h => kt h H locs ls hP hS hl) (fun h => kf h H locs ls hP hS hl)
theorem tr_if_lt {κ : TCx} {own : String} {cc : ByteArray} {nL fr lo pc : Nat} {loc : TL} {st : List TV} {mem : TMem} {x : Int32} {off : Int} {tgt : Nat} (hC : TC κ own cc nL fr lo) (d : decode cc pc = .ok (.ifCond .lt off, 3)) (ht : (pc : Int) + off = (tgt : Int)) (kt : x < 0 → WT κ tgt loc st mem) (kf : ¬ (x < 0) → WT κ (pc + 3) loc st mem) : WT κ pc loc (.inl x :: st) mem := by
  obtain ⟨⟨p, l, e, R, s, m, args, below, meth, c⟩, ⟨D, ρ, cI, cR, A⟩, ⟨cells, slots, Q⟩⟩ := κ
  obtain ⟨hx, hb, hml, hown, hts, hK, hD, hR, hcs⟩ := hC
  intro H locs ls hP hS hl
  exact lv_if_lt hx hb d ht (fun h => kt h H locs ls hP hS hl) (fun h => kf h H locs ls hP hS hl)
theorem tr_icmp_ge {κ : TCx} {own : String} {cc : ByteArray} {nL fr lo pc : Nat} {loc : TL} {st : List TV} {mem : TMem} {x y : Int32} {off : Int} {tgt : Nat} (hC : TC κ own cc nL fr lo) (d : decode cc pc = .ok (.if_icmp .ge off, 3)) (ht : (pc : Int) + off = (tgt : Int)) (kt : y ≤ x → WT κ tgt loc st mem) (kf : ¬ (y ≤ x) → WT κ (pc + 3) loc st mem) : WT κ pc loc (.inl y :: .inl x :: st) mem := by
  obtain ⟨⟨p, l, e, R, s, m, args, below, meth, c⟩, ⟨D, ρ, cI, cR, A⟩, ⟨cells, slots, Q⟩⟩ := κ
  obtain ⟨hx, hb, hml, hown, hts, hK, hD, hR, hcs⟩ := hC
  intro H locs ls hP hS hl
  exact lv_icmp_ge hx hb d ht (fun h => kt h H locs ls hP hS hl) (fun h => kf h H locs ls hP hS hl)
theorem tr_if_ge {κ : TCx} {own : String} {cc : ByteArray} {nL fr lo pc : Nat} {loc : TL} {st : List TV} {mem : TMem} {x : Int32} {off : Int} {tgt : Nat} (hC : TC κ own cc nL fr lo) (d : decode cc pc = .ok (.ifCond .ge off, 3)) (ht : (pc : Int) + off = (tgt : Int)) (kt : 0 ≤ x → WT κ tgt loc st mem) (kf : ¬ (0 ≤ x) → WT κ (pc + 3) loc st mem) : WT κ pc loc (.inl x :: st) mem := by
  obtain ⟨⟨p, l, e, R, s, m, args, below, meth, c⟩, ⟨D, ρ, cI, cR, A⟩, ⟨cells, slots, Q⟩⟩ := κ
  obtain ⟨hx, hb, hml, hown, hts, hK, hD, hR, hcs⟩ := hC
  intro H locs ls hP hS hl
  exact lv_if_ge hx hb d ht (fun h => kt h H locs ls hP hS hl) (fun h => kf h H locs ls hP hS hl)
theorem tr_icmp_gt {κ : TCx} {own : String} {cc : ByteArray} {nL fr lo pc : Nat} {loc : TL} {st : List TV} {mem : TMem} {x y : Int32} {off : Int} {tgt : Nat} (hC : TC κ own cc nL fr lo) (d : decode cc pc = .ok (.if_icmp .gt off, 3)) (ht : (pc : Int) + off = (tgt : Int)) (kt : y < x → WT κ tgt loc st mem) (kf : ¬ (y < x) → WT κ (pc + 3) loc st mem) : WT κ pc loc (.inl y :: .inl x :: st) mem := by
  obtain ⟨⟨p, l, e, R, s, m, args, below, meth, c⟩, ⟨D, ρ, cI, cR, A⟩, ⟨cells, slots, Q⟩⟩ := κ
  obtain ⟨hx, hb, hml, hown, hts, hK, hD, hR, hcs⟩ := hC
  intro H locs ls hP hS hl
  exact lv_icmp_gt hx hb d ht (fun h => kt h H locs ls hP hS hl) (fun h => kf h H locs ls hP hS hl)
theorem tr_if_gt {κ : TCx} {own : String} {cc : ByteArray} {nL fr lo pc : Nat} {loc : TL} {st : List TV} {mem : TMem} {x : Int32} {off : Int} {tgt : Nat} (hC : TC κ own cc nL fr lo) (d : decode cc pc = .ok (.ifCond .gt off, 3)) (ht : (pc : Int) + off = (tgt : Int)) (kt : 0 < x → WT κ tgt loc st mem) (kf : ¬ (0 < x) → WT κ (pc + 3) loc st mem) : WT κ pc loc (.inl x :: st) mem := by
  obtain ⟨⟨p, l, e, R, s, m, args, below, meth, c⟩, ⟨D, ρ, cI, cR, A⟩, ⟨cells, slots, Q⟩⟩ := κ
  obtain ⟨hx, hb, hml, hown, hts, hK, hD, hR, hcs⟩ := hC
  intro H locs ls hP hS hl
  exact lv_if_gt hx hb d ht (fun h => kt h H locs ls hP hS hl) (fun h => kf h H locs ls hP hS hl)
theorem tr_icmp_le {κ : TCx} {own : String} {cc : ByteArray} {nL fr lo pc : Nat} {loc : TL} {st : List TV} {mem : TMem} {x y : Int32} {off : Int} {tgt : Nat} (hC : TC κ own cc nL fr lo) (d : decode cc pc = .ok (.if_icmp .le off, 3)) (ht : (pc : Int) + off = (tgt : Int)) (kt : x ≤ y → WT κ tgt loc st mem) (kf : ¬ (x ≤ y) → WT κ (pc + 3) loc st mem) : WT κ pc loc (.inl y :: .inl x :: st) mem := by
  obtain ⟨⟨p, l, e, R, s, m, args, below, meth, c⟩, ⟨D, ρ, cI, cR, A⟩, ⟨cells, slots, Q⟩⟩ := κ
  obtain ⟨hx, hb, hml, hown, hts, hK, hD, hR, hcs⟩ := hC
  intro H locs ls hP hS hl
  exact lv_icmp_le hx hb d ht (fun h => kt h H locs ls hP hS hl) (fun h => kf h H locs ls hP hS hl)
theorem tr_if_le {κ : TCx} {own : String} {cc : ByteArray} {nL fr lo pc : Nat} {loc : TL} {st : List TV} {mem : TMem} {x : Int32} {off : Int} {tgt : Nat} (hC : TC κ own cc nL fr lo) (d : decode cc pc = .ok (.ifCond .le off, 3)) (ht : (pc : Int) + off = (tgt : Int)) (kt : x ≤ 0 → WT κ tgt loc st mem) (kf : ¬ (x ≤ 0) → WT κ (pc + 3) loc st mem) : WT κ pc loc (.inl x :: st) mem := by
  obtain ⟨⟨p, l, e, R, s, m, args, below, meth, c⟩, ⟨D, ρ, cI, cR, A⟩, ⟨cells, slots, Q⟩⟩ := κ
  obtain ⟨hx, hb, hml, hown, hts, hK, hD, hR, hcs⟩ := hC
  intro H locs ls hP hS hl
  exact lv_if_le hx hb d ht (fun h => kt h H locs ls hP hS hl) (fun h => kf h H locs ls hP hS hl)
theorem tr_goto {κ : TCx} {own : String} {cc : ByteArray} {nL fr lo pc : Nat} {loc : TL} {st : List TV} {mem : TMem} {off : Int} {tgt : Nat} (hC : TC κ own cc nL fr lo) (d : decode cc pc = .ok (.goto off, 3)) (ht : (pc : Int) + off = (tgt : Int)) (k : WT κ tgt loc st mem) : WT κ pc loc st mem := by
  obtain ⟨⟨p, l, e, R, s, m, args, below, meth, c⟩, ⟨D, ρ, cI, cR, A⟩, ⟨cells, slots, Q⟩⟩ := κ
  obtain ⟨hx, hb, hml, hown, hts, hK, hD, hR, hcs⟩ := hC
  intro H locs ls hP hS hl
  exact lv_goto hx hb d ht (k H locs ls hP hS hl)
theorem tr_tabIn {κ : TCx} {own : String} {cc : ByteArray} {nL fr lo pc : Nat} {loc : TL} {st : List TV} {mem : TMem} {dflt low hi off : Int} {offs : Array Int} {len tgt : Nat} {x : Int32} (hC : TC κ own cc nL fr lo) (d : decode cc pc = .ok (.tableswitch dflt low hi offs, len)) (h1 : ¬ x.toInt < low) (h2 : ¬ hi < x.toInt) (ho : offs[(x.toInt - low).toNat]? = some off) (ht : (pc : Int) + off = (tgt : Int)) (k : WT κ tgt loc st mem) : WT κ pc loc (.inl x :: st) mem := by
  obtain ⟨⟨p, l, e, R, s, m, args, below, meth, c⟩, ⟨D, ρ, cI, cR, A⟩, ⟨cells, slots, Q⟩⟩ := κ
  obtain ⟨hx, hb, hml, hown, hts, hK, hD, hR, hcs⟩ := hC
  intro H locs ls hP hS hl
  exact lv_tableIn hx hb d h1 h2 ho ht (k H locs ls hP hS hl)
theorem tr_tabOut {κ : TCx} {own : String} {cc : ByteArray} {nL fr lo pc : Nat} {loc : TL} {st : List TV} {mem : TMem} {dflt low hi : Int} {offs : Array Int} {len tgt : Nat} {x : Int32} (hC : TC κ own cc nL fr lo) (d : decode cc pc = .ok (.tableswitch dflt low hi offs, len)) (h : x.toInt < low ∨ hi < x.toInt) (ht : (pc : Int) + dflt = (tgt : Int)) (k : WT κ tgt loc st mem) : WT κ pc loc (.inl x :: st) mem := by
  obtain ⟨⟨p, l, e, R, s, m, args, below, meth, c⟩, ⟨D, ρ, cI, cR, A⟩, ⟨cells, slots, Q⟩⟩ := κ
  obtain ⟨hx, hb, hml, hown, hts, hK, hD, hR, hcs⟩ := hC
  intro H locs ls hP hS hl
  exact lv_tableOut hx hb d h ht (k H locs ls hP hS hl)
/-- what the tables say of a field of the class of number ci, at its place k, by the entry ix of own's pool -/
def GF (own : String) (ix ci k : Nat) : Prop := ∃ (C : String) (T : u_T) (N : Nat), vwCl[ci]? = some (C, T, N) ∧ k < N ∧ (∀ w ∈ u_ws C T N, w ∈ tw_tbl) ∧ Cond.fieldLink own ix C (T k).2.1 (T k).2.2.1 ∈ tw_tbl ∧ (T k).1 = C
def GP (own : String) (ix ci k : Nat) (ft : FieldType) : Prop := ∃ (C : String) (T : u_T) (N : Nat) (ty0 : Nat → FieldType), vwCl[ci]? = some (C, T, N) ∧ k < N ∧ (∀ w ∈ u_ws C T N, w ∈ tw_tbl) ∧ Cond.fieldLink own ix C (T k).2.1 (T k).2.2.1 ∈ tw_tbl ∧ (T k).1 = C ∧ (∀ k, k < N → parseFieldDescriptor (T k).2.2.1 = some (ty0 k)) ∧ (∀ a, a < N → ∀ b, b < N → a ≠ b → (T a).2.1 ≠ (T b).2.1) ∧ (T k).2.2.2 = false ∧ parseFieldDescriptor (T k).2.2.1 = some ft
theorem tr_geti {κ : TCx} {own : String} {cc : ByteArray} {nL fr lo pc : Nat} {loc : TL} {st : List TV} {mem : TMem} {ix ci k o : Nat} {fs : List (Option Nat)} (hC : TC κ own cc nL fr lo) (d : decode cc pc = .ok (.getfield ix, 3)) (hg : GF own ix ci k) (ho : shp[o]? = some (.inl (ci, fs))) (hf : fs[k]? = some none) (kk : WT κ (pc + 3) loc (.inl (mem o k) :: st) mem) : WT κ pc loc (.inr o :: st) mem := by
  obtain ⟨⟨p, l, e, R, s, m, args, below, meth, c⟩, ⟨D, ρ, cI, cR, A⟩, ⟨cells, slots, Q⟩⟩ := κ
  obtain ⟨hx, hb, hml, hown, hts, hK, hD, hR, hcs⟩ := hC
  intro H locs ls hP hS hl
  obtain ⟨C, T, N, hc, hk, hin, hl1, h1⟩ := hg
  exact va_get (ci := ci) (C := C) (T := T) (N := N) (v := .int (mem o k)) hx hb hts hin hown hK hP o (tw_ws_get ho) hc k hk (hts _ hl1) (fun _ h9 => by rw [← h1]; exact h9) (by rw [List.getElem?_mapIdx, hf]; rfl) d (kk H locs ls hP hS hl)
theorem tr_getr {κ : TCx} {own : String} {cc : ByteArray} {nL fr lo pc : Nat} {loc : TL} {st : List TV} {mem : TMem} {ix ci k o q : Nat} {fs : List (Option Nat)} (hC : TC κ own cc nL fr lo) (d : decode cc pc = .ok (.getfield ix, 3)) (hg : GF own ix ci k) (ho : shp[o]? = some (.inl (ci, fs))) (hf : fs[k]? = some (some q)) (kk : WT κ (pc + 3) loc (.inr q :: st) mem) : WT κ pc loc (.inr o :: st) mem := by
  obtain ⟨⟨p, l, e, R, s, m, args, below, meth, c⟩, ⟨D, ρ, cI, cR, A⟩, ⟨cells, slots, Q⟩⟩ := κ
  obtain ⟨hx, hb, hml, hown, hts, hK, hD, hR, hcs⟩ := hC
  intro H locs ls hP hS hl
  obtain ⟨C, T, N, hc, hk, hin, hl1, h1⟩ := hg
  exact va_get (ci := ci) (C := C) (T := T) (N := N) (v := .ref (ρ q)) hx hb hts hin hown hK hP o (tw_ws_get ho) hc k hk (hts _ hl1) (fun _ h9 => by rw [← h1]; exact h9) (by rw [List.getElem?_mapIdx, hf]; rfl) d (kk H locs ls hP hS hl)
theorem tr_puti {κ : TCx} {own : String} {cc : ByteArray} {nL fr lo pc : Nat} {loc : TL} {st : List TV} {mem : TMem} {ix ci k o : Nat} {fs : List (Option Nat)} {ft : FieldType} {x : Int32} (hC : TC κ own cc nL fr lo) (d : decode cc pc = .ok (.putfield ix, 3)) (hg : GP own ix ci k ft) (ho : shp[o]? = some (.inl (ci, fs))) (hf : fs[k]? = some none) (hn : narrow ft (.int x) = .int x) (hfit : fits ft (.int x) = true) (kk : WT κ (pc + 3) loc st (mset mem o k x)) : WT κ pc loc (.inl x :: .inr o :: st) mem := by
  obtain ⟨⟨p, l, e, R, s, m, args, below, meth, c⟩, ⟨D, ρ, cI, cR, A⟩, ⟨cells, slots, Q⟩⟩ := κ
  obtain ⟨hx, hb, hml, hown, hts, hK, hD, hR, hcs⟩ := hC
  intro H locs ls hP hS hl
  obtain ⟨C, T, N, ty0, hc, hk, hin, hl1, h1, hty, hnm, hfin, hd⟩ := hg
  refine va_put (ci := ci) (C := C) (T := T) (N := N) (v := .int x) hx hb hts hin ty0 hty hnm hown hK hP (tw_D hD) hS o (tw_ws_get ho) hc k hk (hts _ hl1) (fun _ h9 => by rw [← h1]; exact h9) hfin hd hn hfit (by rw [List.length_mapIdx]; exact (List.getElem?_eq_some_iff.mp hf).1) d (fun H1 locs1 hP1 _ hS1 => ?_)
  rw [tw_set_fld ho hf] at hP1
  exact kk H1 locs1 ls hP1 hS1 hl
theorem tr_iald {κ : TCx} {own : String} {cc : ByteArray} {nL fr lo pc : Nat} {loc : TL} {st : List TV} {mem : TMem} {o n : Nat} {i : Int32} (hC : TC κ own cc nL fr lo) (d : decode cc pc = .ok (.iaload, 1)) (ho : shp[o]? = some (.inr (.inl n))) (hin : vp_in i n) (kk : WT κ (pc + 1) loc (.inl (mem o i.toNatClampNeg) :: st) mem) : WT κ pc loc (.inl i :: .inr o :: st) mem := by
  obtain ⟨⟨p, l, e, R, s, m, args, below, meth, c⟩, ⟨D, ρ, cI, cR, A⟩, ⟨cells, slots, Q⟩⟩ := κ
  obtain ⟨hx, hb, hml, hown, hts, hK, hD, hR, hcs⟩ := hC
  intro H locs ls hP hS hl
  exact va_iald hx hb hK hP o 0 (tw_ws_get ho) rfl hin d (kk H locs ls hP hS hl)
theorem tr_iast {κ : TCx} {own : String} {cc : ByteArray} {nL fr lo pc : Nat} {loc : TL} {st : List TV} {mem : TMem} {o n : Nat} {i x : Int32} (hC : TC κ own cc nL fr lo) (d : decode cc pc = .ok (.iastore, 1)) (ho : shp[o]? = some (.inr (.inl n))) (hin : vp_in i n) (kk : WT κ (pc + 1) loc st (mset mem o i.toNatClampNeg x)) : WT κ pc loc (.inl x :: .inl i :: .inr o :: st) mem := by
  obtain ⟨⟨p, l, e, R, s, m, args, below, meth, c⟩, ⟨D, ρ, cI, cR, A⟩, ⟨cells, slots, Q⟩⟩ := κ
  obtain ⟨hx, hb, hml, hown, hts, hK, hD, hR, hcs⟩ := hC
  intro H locs ls hP hS hl
  refine va_iast hx hb hK hP (tw_D hD) hS o 0 (tw_ws_get ho) rfl hin d (fun H1 locs1 hP1 _ hS1 => ?_)
  rw [tw_set_arr ho] at hP1
  exact kk H1 locs1 ls hP1 hS1 hl
theorem tr_aald {κ : TCx} {own : String} {cc : ByteArray} {nL fr lo pc : Nat} {loc : TL} {st : List TV} {mem : TMem} {o n b : Nat} {i : Int32} (hC : TC κ own cc nL fr lo) (d : decode cc pc = .ok (.aaload, 1)) (ho : shp[o]? = some (.inr (.inr (n, b)))) (hin : vp_in i n) (kk : WT κ (pc + 1) loc (.inr (b + i.toNatClampNeg) :: st) mem) : WT κ pc loc (.inl i :: .inr o :: st) mem := by
  obtain ⟨⟨p, l, e, R, s, m, args, below, meth, c⟩, ⟨D, ρ, cI, cR, A⟩, ⟨cells, slots, Q⟩⟩ := κ
  obtain ⟨hx, hb, hml, hown, hts, hK, hD, hR, hcs⟩ := hC
  intro H locs ls hP hS hl
  have hlt : i.toNatClampNeg < n := Nat.not_le.mp fun q => hin (Or.inr q)
  have hcell := hP o _ (tw_ws_get ho)
  exact W.aald (v := .ref (ρ (b + i.toNatClampNeg))) (ty := .array .int) hx hb hcell ((hK.2 1 _ rfl).1 n (fun j => va_rf (if j < n then some (ρ (b + j)) else none))) rfl (fun q => by cases q) (by show ¬ (i < 0 ∨ (arrV _ _ _).slots.size ≤ _); rw [arrV_size]; exact hin) (by show (arrV _ _ _).slots[_]? = _; rw [arrV_read _ _ hlt]; simp only [if_pos hlt]; rfl) rfl rfl d (kk H locs ls hP hS hl)
theorem tr_alen {κ : TCx} {own : String} {cc : ByteArray} {nL fr lo pc : Nat} {loc : TL} {st : List TV} {mem : TMem} {o n : Nat} {v : Int32} (hC : TC κ own cc nL fr lo) (d : decode cc pc = .ok (.arraylength, 1)) (ho : shp[o]? = some (.inr (.inl n))) (hv : Int32.ofNat n = v) (kk : WT κ (pc + 1) loc (.inl v :: st) mem) : WT κ pc loc (.inr o :: st) mem := by
  obtain ⟨⟨p, l, e, R, s, m, args, below, meth, c⟩, ⟨D, ρ, cI, cR, A⟩, ⟨cells, slots, Q⟩⟩ := κ
  obtain ⟨hx, hb, hml, hown, hts, hK, hD, hR, hcs⟩ := hC
  intro H locs ls hP hS hl
  exact va_alen hx hb hK hP o 0 (tw_ws_get ho) (ty := .int) rfl hv d (kk H locs ls hP hS hl)
theorem tr_mmax {κ : TCx} {own : String} {cc : ByteArray} {nL fr lo pc : Nat} {loc : TL} {st : List TV} {mem : TMem} {ix : Nat} {x y : Int32} (hC : TC κ own cc nL fr lo) (d : decode cc pc = .ok (.invokestatic ix, 3)) (hw : Cond.methodLink own ix Lib.Math.max.name ∈ tw_tbl ∧ Cond.static Lib.Math.max.name ∈ tw_tbl ∧ Cond.initialized "java/lang/Math" ∈ tw_tbl ∧ Cond.code Lib.Math.max.name Lib.Math.max.code 2 (some .int) ∈ tw_tbl) (hfr : 1 ≤ fr) (hlo : st.length + 13 ≤ lo) (kk : WT κ (pc + 3) loc (.inl (if x < y then y else x) :: st) mem) : WT κ pc loc (.inl y :: .inl x :: st) mem := by
  obtain ⟨⟨p, l, e, R, s, m, args, below, meth, c⟩, ⟨D, ρ, cI, cR, A⟩, ⟨cells, slots, Q⟩⟩ := κ
  obtain ⟨hx, hb, hml, hown, hts, hK, hD, hR, hcs⟩ := hC
  intro H locs ls hP hS hl
  have hsum : ((st.map (tw_v ρ)).map fun v => v.category).sum = st.length := tw_sum st
  exact va_mmax hx hb hl.1.symm hown (hts _ hw.1) (hts _ hw.2.1) (hts _ hw.2.2.1) (hts _ hw.2.2.2) (Nat.le_trans hfr hR.1) (by rw [hsum]; exact Nat.le_trans hlo hR.2) hcs.1 hcs.2 d (kk H locs ls hP hS hl)
theorem tr_mmin {κ : TCx} {own : String} {cc : ByteArray} {nL fr lo pc : Nat} {loc : TL} {st : List TV} {mem : TMem} {ix : Nat} {x y : Int32} (hC : TC κ own cc nL fr lo) (d : decode cc pc = .ok (.invokestatic ix, 3)) (hw : Cond.methodLink own ix Lib.Math.min.name ∈ tw_tbl ∧ Cond.static Lib.Math.min.name ∈ tw_tbl ∧ Cond.initialized "java/lang/Math" ∈ tw_tbl ∧ Cond.code Lib.Math.min.name Lib.Math.min.code 2 (some .int) ∈ tw_tbl) (hfr : 1 ≤ fr) (hlo : st.length + 13 ≤ lo) (kk : WT κ (pc + 3) loc (.inl (if y < x then y else x) :: st) mem) : WT κ pc loc (.inl y :: .inl x :: st) mem := by
  obtain ⟨⟨p, l, e, R, s, m, args, below, meth, c⟩, ⟨D, ρ, cI, cR, A⟩, ⟨cells, slots, Q⟩⟩ := κ
  obtain ⟨hx, hb, hml, hown, hts, hK, hD, hR, hcs⟩ := hC
  intro H locs ls hP hS hl
  have hsum : ((st.map (tw_v ρ)).map fun v => v.category).sum = st.length := tw_sum st
  exact va_mmin hx hb hl.1.symm hown (hts _ hw.1) (hts _ hw.2.1) (hts _ hw.2.2.1) (hts _ hw.2.2.2) (Nat.le_trans hfr hR.1) (by rw [hsum]; exact Nat.le_trans hlo hR.2) hcs.1 hcs.2 d (kk H locs ls hP hS hl)
theorem tr_iret {κ : TCx} {own : String} {cc : ByteArray} {nL fr lo pc : Nat} {loc : TL} {mem : TMem} {x : Int32} {post : Option TV → TMem → Prop} (hC : TC κ own cc nL fr lo) (hT : TR κ (some .int) post) (d : decode cc pc = .ok (.ireturn, 1)) (h : post (some (.inl x)) mem) : WT κ pc loc [.inl x] mem := by
  obtain ⟨⟨p, l, e, R, s, m, args, below, meth, c⟩, ⟨D, ρ, cI, cR, A⟩, ⟨cells, slots, Q⟩⟩ := κ
  obtain ⟨hx, hb, hml, hown, hts, hK, hD, hR, hcs⟩ := hC
  intro H locs ls hP hS hl
  obtain ⟨hr, hlocks, rfl, rfl, rfl, rfl⟩ := hT
  exact W.iret hx hb hr (fun t ht hW => ⟨⟨(some (.inl x)), mem, rfl, h, by rw [ht]; exact hP⟩, hS.F ht⟩) hS.2.2 d
theorem tr_zret {κ : TCx} {own : String} {cc : ByteArray} {nL fr lo pc : Nat} {loc : TL} {mem : TMem} {x : Int32} {post : Option TV → TMem → Prop} (hC : TC κ own cc nL fr lo) (hT : TR κ (some .boolean) post) (d : decode cc pc = .ok (.ireturn, 1)) (hn : narrow .boolean (.int x) = .int x) (h : post (some (.inl x)) mem) : WT κ pc loc [.inl x] mem := by
  obtain ⟨⟨p, l, e, R, s, m, args, below, meth, c⟩, ⟨D, ρ, cI, cR, A⟩, ⟨cells, slots, Q⟩⟩ := κ
  obtain ⟨hx, hb, hml, hown, hts, hK, hD, hR, hcs⟩ := hC
  intro H locs ls hP hS hl
  obtain ⟨hr, hlocks, rfl, rfl, rfl, rfl⟩ := hT
  exact W.zret hx hb hr hn (fun t ht hW => ⟨⟨(some (.inl x)), mem, rfl, h, by rw [ht]; exact hP⟩, hS.F ht⟩) hS.2.2 d
theorem tr_vret {κ : TCx} {own : String} {cc : ByteArray} {nL fr lo pc : Nat} {loc : TL} {mem : TMem} {post : Option TV → TMem → Prop} (hC : TC κ own cc nL fr lo) (hT : TR κ none post) (d : decode cc pc = .ok (.return_, 1)) (h : post none mem) : WT κ pc loc [] mem := by
  obtain ⟨⟨p, l, e, R, s, m, args, below, meth, c⟩, ⟨D, ρ, cI, cR, A⟩, ⟨cells, slots, Q⟩⟩ := κ
  obtain ⟨hx, hb, hml, hown, hts, hK, hD, hR, hcs⟩ := hC
  intro H locs ls hP hS hl
  obtain ⟨hr, hlocks, rfl, rfl, rfl, rfl⟩ := hT
  exact W.vret hx hb hr (fun t ht hW => ⟨⟨none, mem, rfl, h, by rw [ht]; exact hP⟩, hS.F ht⟩) hS.2.2 d
theorem tr_aret {κ : TCx} {own : String} {cc : ByteArray} {nL fr lo pc : Nat} {loc : TL} {mem : TMem} {o : Nat} {rt : FieldType} {post : Option TV → TMem → Prop} (hC : TC κ own cc nL fr lo) (hT : TR κ (some rt) post) (d : decode cc pc = .ok (.areturn, 1)) (hrt : (∃ n, rt = .object n) ∨ ∃ t, rt = .array t) (h : post (some (.inr o)) mem) : WT κ pc loc [.inr o] mem := by
  obtain ⟨⟨p, l, e, R, s, m, args, below, meth, c⟩, ⟨D, ρ, cI, cR, A⟩, ⟨cells, slots, Q⟩⟩ := κ
  obtain ⟨hx, hb, hml, hown, hts, hK, hD, hR, hcs⟩ := hC
  intro H locs ls hP hS hl
  obtain ⟨hr, hlocks, rfl, rfl, rfl, rfl⟩ := hT
  exact W.aret hx hb hr hrt (Or.inr ⟨_, rfl⟩) (fun t ht hW => ⟨⟨some (.inr o), mem, rfl, h, by rw [ht]; exact hP⟩, hS.F ht⟩) hS.2.2 d
theorem tr_callV {κ : TCx} {own : String} {cc : ByteArray} {nL fr lo pc : Nat} {loc : TL} {st : List TV} {mem : TMem} {ix ci o fr2 lo2 : Nat} {fs : List (Option Nat)} {i : TMI} {As stk : List TV} {T : u_T} {N : Nat} {post : Option TV → TMem → Prop} (hC : TC κ own cc nL fr lo) (d : decode cc pc = .ok (.invokevirtual ix, 3)) (hw : MCW own ix i As.length) (hv : Cond.instanceMethod i.1 ∈ tw_tbl ∧ Cond.selects i.1.cls i.1 i.1 ∈ tw_tbl) (ho : shp[o]? = some (.inl (ci, fs))) (hc : vwCl[ci]? = some (i.1.cls, T, N)) (hrm : fr2 + 1 ≤ fr ∧ 8 + (i.2.2.1 + 11) + lo2 ≤ lo ∧ st.length ≤ 8) (hst : As.reverse ++ .inr o :: st = stk) (hM : TMet κ.1.2.1 i fr2 lo2 (.inr o :: As) mem post) (kk : ∀ r mem2, post r mem2 → WT κ (pc + 3) loc (r.toList ++ st) mem2) : WT κ pc loc stk mem := by
  obtain ⟨⟨p, l, e, R, s, m, args, below, meth, c⟩, ⟨D, ρ, cI, cR, A⟩, ⟨cells, slots, Q⟩⟩ := κ
  obtain ⟨hx, hb, hml, hown, hts, hK, hD, hR, hcs⟩ := hC
  intro H locs ls hP hS hl
  subst hst
  obtain ⟨w1, w2, w3, w4⟩ := hw
  have hsum : ((st.map (tw_v ρ)).map fun v => v.category).sum = st.length := tw_sum st
  have run := va_runV (rest := st.map (tw_v ρ)) (As := As.map (tw_v ρ)) (C := i.1.cls) (b := ρ o) (g := F0 m pc ls ((As.reverse ++ .inr o :: st).map (tw_v ρ))) (H := H) (locs := locs) (cells := cells) (slots := slots) (below := below) (meth := meth) (e := e) (R := R) ⟨hx, hb, rfl, hown, hts⟩ (hM D ρ cI cR)
    ⟨callB_of (bytes := i.2.1) (maxL := i.2.2.1) (ret := i.2.2.2) As.length hts (mi_good w1) rfl rfl rfl (hts _ w2) (hts _ w3) w4 ⟨Nat.le_trans hrm.1 hR.1, Nat.le_trans hrm.2.1 hR.2⟩, hts _ hv.1, hts _ hv.2⟩
    ⟨tw_blind, va_recv hK hP hc (tw_ws_get ho), fun U hU hW => ⟨rfl, by rw [hU]; exact hP, va_K.moved hW.alike hK, (tw_D hD).weaken (fun _ _ _ _ => trivial)⟩⟩ rfl (by rw [List.length_map]) hl.1 (by simp [tw_v]) (lv_room (by rw [hsum]; exact hrm.2.2)) d ⟨hcs.1, hcs.2⟩
  refine tw_go run hS (fun q hq => tw_A_D hD hq) (fun r mem' H1 locs1 hp hP1 hS1 => ?_)
  have := kk r mem' hp H1 locs1 ls hP1 hS1 hl
  rw [List.map_append] at this
  cases r <;> exact this
theorem tr_callS {κ : TCx} {own : String} {cc : ByteArray} {nL fr lo pc : Nat} {loc : TL} {st : List TV} {mem : TMem} {ix fr2 lo2 : Nat} {i : TMI} {As stk : List TV} {post : Option TV → TMem → Prop} (hC : TC κ own cc nL fr lo) (d : decode cc pc = .ok (.invokestatic ix, 3)) (hw : MCW own ix i As.length) (hv : Cond.static i.1 ∈ tw_tbl) (hrm : fr2 + 1 ≤ fr ∧ 8 + (i.2.2.1 + 11) + lo2 ≤ lo ∧ st.length ≤ 8) (hst : As.reverse ++ st = stk) (hM : TMet κ.1.2.1 i fr2 lo2 As mem post) (kk : ∀ r mem2, post r mem2 → WT κ (pc + 3) loc (r.toList ++ st) mem2) : WT κ pc loc stk mem := by
  obtain ⟨⟨p, l, e, R, s, m, args, below, meth, c⟩, ⟨D, ρ, cI, cR, A⟩, ⟨cells, slots, Q⟩⟩ := κ
  obtain ⟨hx, hb, hml, hown, hts, hK, hD, hR, hcs⟩ := hC
  intro H locs ls hP hS hl
  subst hst
  obtain ⟨w1, w2, w3, w4⟩ := hw
  have hsum : ((st.map (tw_v ρ)).map fun v => v.category).sum = st.length := tw_sum st
  have run := va_runS (rest := st.map (tw_v ρ)) (As := As.map (tw_v ρ)) (g := F0 m pc ls ((As.reverse ++ st).map (tw_v ρ))) (H := H) (locs := locs) (cells := cells) (slots := slots) (below := below) (meth := meth) (e := e) (R := R) ⟨hx, hb, rfl, hown, hts⟩ (hM D ρ cI cR)
    ⟨callB_of (bytes := i.2.1) (maxL := i.2.2.1) (ret := i.2.2.2) As.length hts (mi_good w1) rfl rfl rfl (hts _ w2) (hts _ w3) w4 ⟨Nat.le_trans hrm.1 hR.1, Nat.le_trans hrm.2.1 hR.2⟩, hts _ hv⟩
    ⟨tw_blind, fun U hU hW => ⟨rfl, by rw [hU]; exact hP, va_K.moved hW.alike hK, (tw_D hD).weaken (fun _ _ _ _ => trivial)⟩⟩ rfl (by rw [List.length_map]) hl.1 (by simp) (lv_room (by rw [hsum]; exact hrm.2.2)) d ⟨hcs.1, hcs.2⟩
  refine tw_go run hS (fun q hq => tw_A_D hD hq) (fun r mem' H1 locs1 hp hP1 hS1 => ?_)
  have := kk r mem' hp H1 locs1 ls hP1 hS1 hl
  rw [List.map_append] at this
  cases r <;> exact this

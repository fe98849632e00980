/-! THE CLAIM OUT OF ONE WALK OF THE LAW'S BODY. Your part is whole_start (and what it stands on); all else here is the same for every law, but numbers. -/
def R_law : String := "SoundWordsLaw"
def lw_P (b : Addr) (xs : List Int32) (args : Array Value) (s : State) : Prop := args = #[.ref b] ∧ s.IntsAt b xs ∧ xs.length ≤ 3072 ∧ (Jvm.Cond.and given_1 narrow_1).before args s = true
def lw_Q (_ : Array Value) (s : State) (o : Outcome) (t : State) : Prop := o = .returned (some (.int 1)) ∧ Framed s o t [] 600000 7302250
def lw_Z (below : List Frame) (a : Array Value) (s : State) : State → Prop := fun t => ∃ o, t.status = .running ∧ Ended t below o ∧ lw_Q a s o t
/-- the law's own end, with 1 on the stack, nothing written that was there before, its room as the claim has it -/
theorem lw_ret {p : Program} {l : Launch} {e : Env} {s : State} {m : MethodId} {below : List Frame} {meth : Method} {c : Code} {b : Nat} (hx : p.tables.exec = Jvm.exec) (hb : c.code = code) (hr : meth.sig.returnType = ret) (hlocks : meth.locks = false) {pc : Nat} {H : Heap} {ls : Array Slot} (hdg : decode code pc = .ok (.ireturn, 1)) : W p l e room_1 s m #[Value.ref b] below meth c H [] 600000 7302250 (lw_Z below #[Value.ref b] s) (F0 m pc ls [.int 1]) := by
  intro T hT X
  obtain ⟨fs, hret, hrun, hended, hW, hframe⟩ := X.leave (v := some (.int 1)) (hlocks := hlocks) (fun h => by rw [hr] at h; cases h)
  have hmeth' : T.vm.method? m = some meth := X.method'
  refine ⟨T.setFrames fs, ?_, .returned (some (.int 1)), hrun, hended, rfl, ⟨_, rfl⟩, hW, hframe⟩
  jvm_step X.here [X.here.top, hx, hb, hdg, hmeth', hr, ret, narrow_b1]
  (try refine ⟨rfl, ?_⟩); (try refine ⟨rfl, ?_⟩)
  first | (intro acts; rw [hret _ acts rfl rfl rfl]) | rw [hret _ _ rfl rfl rfl]
  exact Steps.refl _
/-- what holds at the law's entry: the machine, the code, the tables' words (any of lw_tbl by 'hts w (by decide +kernel)'), the script of L ints xs at the cell b, what the Statement gives of the start (any of its parts by flat_of_before) -/
def lw_At (p : Program) (s : State) (m : MethodId) (meth : Method) (c : Code) (b L : Nat) (xs : Nat → Int32) : Prop :=
  p.tables.exec = Jvm.exec ∧ c.code = code ∧ meth.sig.returnType = ret ∧ c.maxLocals = 4 ∧ s.vm.findClass R_law = some m.cls ∧ (∀ w ∈ lw_tbl, w.before #[Value.ref b] s = true) ∧ va_X b L xs s s.heap ∧ b < s.heap.size ∧ meth.locks = false ∧ (Jvm.Cond.and given_1 narrow_1).before #[Value.ref b] s = true
/-- the law's own frame: its script is the cell of number 999 -/
def LX (κ : TCx) (L : Nat) (xs : Nat → Int32) : Prop := match κ with
  | ((_, _, _, R, s, _, args, below, meth, _), (_, ρ, _, _, A), (cells, slots, Q)) => va_X (ρ 999) L xs s s.heap ∧ ρ 999 < s.heap.size ∧ ¬ A (ρ 999) ∧ meth.sig.returnType = ret ∧ meth.locks = false ∧ R = room_1 ∧ args = #[Value.ref (ρ 999)] ∧ Q = lw_Z below #[Value.ref (ρ 999)] s ∧ cells ≤ 600000 ∧ slots ≤ 7302250 ∧ (∀ q, A q → s.heap.size ≤ q)
section LR
variable {κ : TCx} {own : String} {cc : ByteArray} {nL fr lo pc L : Nat} {xs : Nat → Int32} {loc : TL} {st : List TV} {mem : TMem}
theorem tr_sld {i : Int32} (hC : TC κ own cc nL fr lo) (hX : LX κ L xs) (d : decode cc pc = .ok (.iaload, 1)) (hin : vp_in i L) (kk : WT κ (pc + 1) loc (.inl (xs i.toNatClampNeg) :: st) mem) : WT κ pc loc (.inl i :: .inr 999 :: st) mem := by
  obtain ⟨⟨p, l, e, R, s, m, args, below, meth, c⟩, ⟨D, ρ, cI, cR, A⟩, ⟨cells, slots, Q⟩⟩ := κ
  obtain ⟨hx, hb, hml, hown, hts, hK, hD, hR, hcs⟩ := hC
  intro H locs ls hP hS hl
  exact va_sld hx hb hX.1 hX.2.1 hX.2.2.1 hS hin d (kk H locs ls hP hS hl)
theorem tr_slen (hC : TC κ own cc nL fr lo) (hX : LX κ L xs) (d : decode cc pc = .ok (.arraylength, 1)) (kk : WT κ (pc + 1) loc (.inl (nI L) :: st) mem) : WT κ pc loc (.inr 999 :: st) mem := by
  obtain ⟨⟨p, l, e, R, s, m, args, below, meth, c⟩, ⟨D, ρ, cI, cR, A⟩, ⟨cells, slots, Q⟩⟩ := κ
  obtain ⟨hx, hb, hml, hown, hts, hK, hD, hR, hcs⟩ := hC
  intro H locs ls hP hS hl
  exact va_slen hx hb hX.1 hX.2.1 hX.2.2.1 hS d (kk H locs ls hP hS hl)
theorem tr_lret (hC : TC κ own code nL fr lo) (hX : LX κ L xs) (d : decode code pc = .ok (.ireturn, 1)) : WT κ pc loc [.inl 1] mem := by
  obtain ⟨⟨p, l, e, R, s, m, args, below, meth, c⟩, ⟨D, ρ, cI, cR, A⟩, ⟨cells, slots, Q⟩⟩ := κ
  obtain ⟨hx, hb, hml, hown, hts, hK, hD, hR, hcs⟩ := hC
  obtain ⟨h1, h2, h3, hr, hlocks, rfl, rfl, rfl, hc, hs, hA⟩ := hX
  intro H locs ls hP hS hl
  refine va_forget (fun q hq => hA _ (hS.2.2 q hq)) ?_
  refine W.widen (k := 600000) (n := 7302250) hc hs ?_
  exact lw_ret hx hb hr hlocks d
end LR
set_option maxRecDepth 100000 in
theorem K_law_18 {κ : TCx} {L : Nat} {xs : Nat → Int32} (hC : TC κ RL cL_law 4 9 352) (hX : LX κ L xs) (mem : TMem) (v3 : Int32) (h : (((nI L) - 6) < v3 → True) ∧ (¬ (((nI L) - 6) < v3) → (vp_in v3 L ∧ ((((xs v3.toNatClampNeg) &&& 31) = 0 → ((vp_in (v3 + 1) L) ∧ (∃ post : Int32 → TMem → Prop, TMi κ.1.2.1 i_X10_feed 2 42 [.inr 0, .inl (xs (Int32.toNatClampNeg (v3 + 1)))] mem post ∧ ∀ (x150 : Int32) (m150 : TMem), post x150 m150 → (∃ post : Int32 → TMem → Prop, TMi κ.1.2.1 i_X11_feed 1 22 [.inr 187, .inl (xs (Int32.toNatClampNeg (v3 + 1)))] m150 post ∧ ∀ (x159 : Int32) (m159 : TMem), post x159 m159 → ((x150 = x159 → (WT κ 18 [some (.inr 999), some (.inr 0), some (.inr 187), some (.inl (v3 + 6))] [] m159)) ∧ (¬ (x150 = x159) → False)))))) ∧ (¬ (((xs v3.toNatClampNeg) &&& 31) = 0) → ((((xs v3.toNatClampNeg) &&& 31) = 1 → (∃ post : Int32 → TMem → Prop, TMi κ.1.2.1 i_X10_hush 2 40 [.inr 0] mem post ∧ ∀ (x168 : Int32) (m168 : TMem), post x168 m168 → (∃ post : Int32 → TMem → Prop, TMi κ.1.2.1 i_X11_hush 0 0 [.inr 187] m168 post ∧ ∀ (x172 : Int32) (m172 : TMem), post x172 m172 → ((x168 = x172 → (WT κ 18 [some (.inr 999), some (.inr 0), some (.inr 187), some (.inl (v3 + 6))] [] m172)) ∧ (¬ (x168 = x172) → False))))) ∧ (¬ (((xs v3.toNatClampNeg) &&& 31) = 1) → ((((xs v3.toNatClampNeg) &&& 31) = 2 → ((vp_in (v3 + 1) L) ∧ ((vp_in (v3 + 2) L) ∧ ((vp_in (v3 + 3) L) ∧ (∃ post : Int32 → TMem → Prop, TMi κ.1.2.1 i_X10_cost 2 42 [.inr 0, .inl (xs (Int32.toNatClampNeg (v3 + 1))), .inl (xs (Int32.toNatClampNeg (v3 + 2))), .inl (xs (Int32.toNatClampNeg (v3 + 3)))] mem post ∧ ∀ (x196 : Int32) (m196 : TMem), post x196 m196 → (∃ post : Int32 → TMem → Prop, TMi κ.1.2.1 i_X11_cost 1 22 [.inr 187, .inl (xs (Int32.toNatClampNeg (v3 + 1))), .inl (xs (Int32.toNatClampNeg (v3 + 2))), .inl (xs (Int32.toNatClampNeg (v3 + 3)))] m196 post ∧ ∀ (x215 : Int32) (m215 : TMem), post x215 m215 → ((x196 = x215 → (WT κ 18 [some (.inr 999), some (.inr 0), some (.inr 187), some (.inl (v3 + 6))] [] m215)) ∧ (¬ (x196 = x215) → False)))))))) ∧ (¬ (((xs v3.toNatClampNeg) &&& 31) = 2) → ((((xs v3.toNatClampNeg) &&& 31) = 3 → ((vp_in (v3 + 1) L) ∧ (∃ post : Int32 → TMem → Prop, TMi κ.1.2.1 i_X10_stay 2 40 [.inr 0, .inl (xs (Int32.toNatClampNeg (v3 + 1)))] mem post ∧ ∀ (x229 : Int32) (m229 : TMem), post x229 m229 → (∃ post : Int32 → TMem → Prop, TMi κ.1.2.1 i_X11_stay 1 22 [.inr 187, .inl (xs (Int32.toNatClampNeg (v3 + 1)))] m229 post ∧ ∀ (x238 : Int32) (m238 : TMem), post x238 m238 → ((x229 = x238 → (WT κ 18 [some (.inr 999), some (.inr 0), some (.inr 187), some (.inl (v3 + 6))] [] m238)) ∧ (¬ (x229 = x238) → False)))))) ∧ (¬ (((xs v3.toNatClampNeg) &&& 31) = 3) → ((((xs v3.toNatClampNeg) &&& 31) = 4 → ((vp_in (v3 + 1) L) ∧ ((vp_in (v3 + 2) L) ∧ ((vp_in (v3 + 3) L) ∧ ((vp_in (v3 + 4) L) ∧ (∃ post : Int32 → TMem → Prop, TMi κ.1.2.1 i_X10_word 4 86 [.inr 0, .inl (xs (Int32.toNatClampNeg (v3 + 1))), .inl (xs (Int32.toNatClampNeg (v3 + 2))), .inl (xs (Int32.toNatClampNeg (v3 + 3))), .inl (xs (Int32.toNatClampNeg (v3 + 4)))] mem post ∧ ∀ (x267 : Int32) (m267 : TMem), post x267 m267 → (∃ post : Int32 → TMem → Prop, TMi κ.1.2.1 i_X11_word 2 46 [.inr 187, .inl (xs (Int32.toNatClampNeg (v3 + 1))), .inl (xs (Int32.toNatClampNeg (v3 + 2))), .inl (xs (Int32.toNatClampNeg (v3 + 3))), .inl (xs (Int32.toNatClampNeg (v3 + 4)))] m267 post ∧ ∀ (x291 : Int32) (m291 : TMem), post x291 m291 → ((x267 = x291 → (WT κ 18 [some (.inr 999), some (.inr 0), some (.inr 187), some (.inl (v3 + 6))] [] m291)) ∧ (¬ (x267 = x291) → False))))))))) ∧ (¬ (((xs v3.toNatClampNeg) &&& 31) = 4) → ((((xs v3.toNatClampNeg) &&& 31) = 5 → ((vp_in (v3 + 1) L) ∧ ((vp_in (v3 + 2) L) ∧ ((vp_in (v3 + 3) L) ∧ ((vp_in (v3 + 4) L) ∧ ((vp_in (v3 + 5) L) ∧ (∃ post : Int32 → TMem → Prop, TMi κ.1.2.1 i_X10_way 4 86 [.inr 0, .inl (xs (Int32.toNatClampNeg (v3 + 1))), .inl (xs (Int32.toNatClampNeg (v3 + 2))), .inl (xs (Int32.toNatClampNeg (v3 + 3))), .inl (xs (Int32.toNatClampNeg (v3 + 4))), .inl (xs (Int32.toNatClampNeg (v3 + 5)))] mem post ∧ ∀ (x325 : Int32) (m325 : TMem), post x325 m325 → (∃ post : Int32 → TMem → Prop, TMi κ.1.2.1 i_X11_way 2 46 [.inr 187, .inl (xs (Int32.toNatClampNeg (v3 + 1))), .inl (xs (Int32.toNatClampNeg (v3 + 2))), .inl (xs (Int32.toNatClampNeg (v3 + 3))), .inl (xs (Int32.toNatClampNeg (v3 + 4))), .inl (xs (Int32.toNatClampNeg (v3 + 5)))] m325 post ∧ ∀ (x354 : Int32) (m354 : TMem), post x354 m354 → ((x325 = x354 → (WT κ 18 [some (.inr 999), some (.inr 0), some (.inr 187), some (.inl (v3 + 6))] [] m354)) ∧ (¬ (x325 = x354) → False)))))))))) ∧ (¬ (((xs v3.toNatClampNeg) &&& 31) = 5) → ((((xs v3.toNatClampNeg) &&& 31) = 6 → ((vp_in (v3 + 1) L) ∧ ((vp_in (v3 + 2) L) ∧ ((vp_in (v3 + 3) L) ∧ (∃ post : Int32 → TMem → Prop, TMi κ.1.2.1 i_X10_grammar 3 64 [.inr 0, .inl (xs (Int32.toNatClampNeg (v3 + 1))), .inl (xs (Int32.toNatClampNeg (v3 + 2))), .inl (xs (Int32.toNatClampNeg (v3 + 3)))] mem post ∧ ∀ (x378 : Int32) (m378 : TMem), post x378 m378 → (∃ post : Int32 → TMem → Prop, TMi κ.1.2.1 i_X11_grammar 2 43 [.inr 187, .inl (xs (Int32.toNatClampNeg (v3 + 1))), .inl (xs (Int32.toNatClampNeg (v3 + 2))), .inl (xs (Int32.toNatClampNeg (v3 + 3)))] m378 post ∧ ∀ (x397 : Int32) (m397 : TMem), post x397 m397 → ((x378 = x397 → (WT κ 18 [some (.inr 999), some (.inr 0), some (.inr 187), some (.inl (v3 + 6))] [] m397)) ∧ (¬ (x378 = x397) → False)))))))) ∧ (¬ (((xs v3.toNatClampNeg) &&& 31) = 6) → ((((xs v3.toNatClampNeg) &&& 31) = 7 → (∃ post : Int32 → TMem → Prop, TMi κ.1.2.1 i_X10_least 6 153 [.inr 0] mem post ∧ ∀ (x406 : Int32) (m406 : TMem), post x406 m406 → (∃ post : Int32 → TMem → Prop, TMi κ.1.2.1 i_X11_least 5 116 [.inr 187] m406 post ∧ ∀ (x410 : Int32) (m410 : TMem), post x410 m410 → ((x406 = x410 → (WT κ 18 [some (.inr 999), some (.inr 0), some (.inr 187), some (.inl (v3 + 6))] [] m410)) ∧ (¬ (x406 = x410) → False))))) ∧ (¬ (((xs v3.toNatClampNeg) &&& 31) = 7) → ((((xs v3.toNatClampNeg) &&& 31) = 8 → (∃ post : Int32 → TMem → Prop, TMi κ.1.2.1 i_X10_rowSize 6 153 [.inr 0] mem post ∧ ∀ (x419 : Int32) (m419 : TMem), post x419 m419 → (∃ post : Int32 → TMem → Prop, TMi κ.1.2.1 i_X11_rowSize 6 140 [.inr 187] m419 post ∧ ∀ (x423 : Int32) (m423 : TMem), post x423 m423 → ((x419 = x423 → (WT κ 18 [some (.inr 999), some (.inr 0), some (.inr 187), some (.inl (v3 + 6))] [] m423)) ∧ (¬ (x419 = x423) → False))))) ∧ (¬ (((xs v3.toNatClampNeg) &&& 31) = 8) → ((((xs v3.toNatClampNeg) &&& 31) = 9 → ((vp_in (v3 + 1) L) ∧ (∃ post : Int32 → TMem → Prop, TMi κ.1.2.1 i_X10_rowAt 6 153 [.inr 0, .inl (xs (Int32.toNatClampNeg (v3 + 1)))] mem post ∧ ∀ (x437 : Int32) (m437 : TMem), post x437 m437 → (∃ post : Int32 → TMem → Prop, TMi κ.1.2.1 i_X11_rowAt 6 140 [.inr 187, .inl (xs (Int32.toNatClampNeg (v3 + 1)))] m437 post ∧ ∀ (x446 : Int32) (m446 : TMem), post x446 m446 → ((x437 = x446 → (WT κ 18 [some (.inr 999), some (.inr 0), some (.inr 187), some (.inl (v3 + 6))] [] m446)) ∧ (¬ (x437 = x446) → False)))))) ∧ (¬ (((xs v3.toNatClampNeg) &&& 31) = 9) → ((((xs v3.toNatClampNeg) &&& 31) = 10 → (∃ post : Int32 → TMem → Prop, TMi κ.1.2.1 i_X10_beside 6 153 [.inr 0] mem post ∧ ∀ (x455 : Int32) (m455 : TMem), post x455 m455 → (∃ post : Int32 → TMem → Prop, TMi κ.1.2.1 i_X11_beside 6 140 [.inr 187] m455 post ∧ ∀ (x459 : Int32) (m459 : TMem), post x459 m459 → ((x455 = x459 → (WT κ 18 [some (.inr 999), some (.inr 0), some (.inr 187), some (.inl (v3 + 6))] [] m459)) ∧ (¬ (x455 = x459) → False))))) ∧ (¬ (((xs v3.toNatClampNeg) &&& 31) = 10) → ((((xs v3.toNatClampNeg) &&& 31) = 11 → ((vp_in (v3 + 1) L) ∧ (∃ post : Int32 → TMem → Prop, TMi κ.1.2.1 i_X10_say 2 43 [.inr 0, .inl (xs (Int32.toNatClampNeg (v3 + 1)))] mem post ∧ ∀ (x473 : Int32) (m473 : TMem), post x473 m473 → (∃ post : Int32 → TMem → Prop, TMi κ.1.2.1 i_X11_say 2 43 [.inr 187, .inl (xs (Int32.toNatClampNeg (v3 + 1)))] m473 post ∧ ∀ (x482 : Int32) (m482 : TMem), post x482 m482 → ((x473 = x482 → (WT κ 18 [some (.inr 999), some (.inr 0), some (.inr 187), some (.inl (v3 + 6))] [] m482)) ∧ (¬ (x473 = x482) → False)))))) ∧ (¬ (((xs v3.toNatClampNeg) &&& 31) = 11) → ((((xs v3.toNatClampNeg) &&& 31) = 12 → (∃ post : Int32 → TMem → Prop, TMi κ.1.2.1 i_X10_unsay 1 20 [.inr 0] mem post ∧ ∀ (x491 : Int32) (m491 : TMem), post x491 m491 → (∃ post : Int32 → TMem → Prop, TMi κ.1.2.1 i_X11_unsay 0 0 [.inr 187] m491 post ∧ ∀ (x495 : Int32) (m495 : TMem), post x495 m495 → ((x491 = x495 → (WT κ 18 [some (.inr 999), some (.inr 0), some (.inr 187), some (.inl (v3 + 6))] [] m495)) ∧ (¬ (x491 = x495) → False))))) ∧ (¬ (((xs v3.toNatClampNeg) &&& 31) = 12) → ((((xs v3.toNatClampNeg) &&& 31) = 13 → (∃ post : Int32 → TMem → Prop, TMi κ.1.2.1 i_X10_lay 4 99 [.inr 0] mem post ∧ ∀ (x504 : Int32) (m504 : TMem), post x504 m504 → (∃ post : Int32 → TMem → Prop, TMi κ.1.2.1 i_X11_lay 5 125 [.inr 187] m504 post ∧ ∀ (x508 : Int32) (m508 : TMem), post x508 m508 → ((x504 = x508 → (WT κ 18 [some (.inr 999), some (.inr 0), some (.inr 187), some (.inl (v3 + 6))] [] m508)) ∧ (¬ (x504 = x508) → False))))) ∧ (¬ (((xs v3.toNatClampNeg) &&& 31) = 13) → ((((xs v3.toNatClampNeg) &&& 31) = 14 → ((vp_in (v3 + 1) L) ∧ ((vp_in (v3 + 2) L) ∧ (∃ post : Int32 → TMem → Prop, TMi κ.1.2.1 i_X10_laid 1 22 [.inr 0, .inl (xs (Int32.toNatClampNeg (v3 + 1))), .inl (xs (Int32.toNatClampNeg (v3 + 2)))] mem post ∧ ∀ (x527 : Int32) (m527 : TMem), post x527 m527 → (∃ post : Int32 → TMem → Prop, TMi κ.1.2.1 i_X11_laid 1 22 [.inr 187, .inl (xs (Int32.toNatClampNeg (v3 + 1))), .inl (xs (Int32.toNatClampNeg (v3 + 2)))] m527 post ∧ ∀ (x541 : Int32) (m541 : TMem), post x541 m541 → ((x527 = x541 → (WT κ 18 [some (.inr 999), some (.inr 0), some (.inr 187), some (.inl (v3 + 6))] [] m541)) ∧ (¬ (x527 = x541) → False))))))) ∧ (¬ (((xs v3.toNatClampNeg) &&& 31) = 14) → ((((xs v3.toNatClampNeg) &&& 31) = 15 → (∃ post : Int32 → TMem → Prop, TMi κ.1.2.1 i_X10_edits 6 153 [.inr 0] mem post ∧ ∀ (x550 : Int32) (m550 : TMem), post x550 m550 → (∃ post : Int32 → TMem → Prop, TMi κ.1.2.1 i_X11_edits 6 140 [.inr 187] m550 post ∧ ∀ (x554 : Int32) (m554 : TMem), post x554 m554 → ((x550 = x554 → (WT κ 18 [some (.inr 999), some (.inr 0), some (.inr 187), some (.inl (v3 + 6))] [] m554)) ∧ (¬ (x550 = x554) → False))))) ∧ (¬ (((xs v3.toNatClampNeg) &&& 31) = 15) → ((((xs v3.toNatClampNeg) &&& 31) = 16 → (∃ post : Int32 → TMem → Prop, TMi κ.1.2.1 i_X10_teach 2 50 [.inr 0] mem post ∧ ∀ (x563 : Int32) (m563 : TMem), post x563 m563 → (∃ post : Int32 → TMem → Prop, TMi κ.1.2.1 i_X11_teach 0 0 [.inr 187] m563 post ∧ ∀ (x567 : Int32) (m567 : TMem), post x567 m567 → ((x563 = x567 → (WT κ 18 [some (.inr 999), some (.inr 0), some (.inr 187), some (.inl (v3 + 6))] [] m567)) ∧ (¬ (x563 = x567) → False))))) ∧ (¬ (((xs v3.toNatClampNeg) &&& 31) = 16) → ((((xs v3.toNatClampNeg) &&& 31) = 17 → (∃ post : Int32 → TMem → Prop, TMi κ.1.2.1 i_X10_unteach 1 25 [.inr 0] mem post ∧ ∀ (x576 : Int32) (m576 : TMem), post x576 m576 → (∃ post : Int32 → TMem → Prop, TMi κ.1.2.1 i_X11_unteach 0 0 [.inr 187] m576 post ∧ ∀ (x580 : Int32) (m580 : TMem), post x580 m580 → ((x576 = x580 → (WT κ 18 [some (.inr 999), some (.inr 0), some (.inr 187), some (.inl (v3 + 6))] [] m580)) ∧ (¬ (x576 = x580) → False))))) ∧ (¬ (((xs v3.toNatClampNeg) &&& 31) = 17) → ((((xs v3.toNatClampNeg) &&& 31) = 18 → ((vp_in (v3 + 1) L) ∧ ((vp_in (v3 + 2) L) ∧ (∃ post : Int32 → TMem → Prop, TMi κ.1.2.1 i_X10_taught 2 42 [.inr 0, .inl (xs (Int32.toNatClampNeg (v3 + 1))), .inl (xs (Int32.toNatClampNeg (v3 + 2)))] mem post ∧ ∀ (x599 : Int32) (m599 : TMem), post x599 m599 → (∃ post : Int32 → TMem → Prop, TMi κ.1.2.1 i_X11_taught 1 22 [.inr 187, .inl (xs (Int32.toNatClampNeg (v3 + 1))), .inl (xs (Int32.toNatClampNeg (v3 + 2)))] m599 post ∧ ∀ (x613 : Int32) (m613 : TMem), post x613 m613 → ((x599 = x613 → (WT κ 18 [some (.inr 999), some (.inr 0), some (.inr 187), some (.inl (v3 + 6))] [] m613)) ∧ (¬ (x599 = x613) → False))))))) ∧ (¬ (((xs v3.toNatClampNeg) &&& 31) = 18) → ((((xs v3.toNatClampNeg) &&& 31) = 19 → (∃ post : Int32 → TMem → Prop, TMi κ.1.2.1 i_X10_renew 2 48 [.inr 0] mem post ∧ ∀ (x622 : Int32) (m622 : TMem), post x622 m622 → (∃ post : Int32 → TMem → Prop, TMi κ.1.2.1 i_X11_renew 0 0 [.inr 187] m622 post ∧ ∀ (x626 : Int32) (m626 : TMem), post x626 m626 → ((x622 = x626 → (WT κ 18 [some (.inr 999), some (.inr 0), some (.inr 187), some (.inl (v3 + 6))] [] m626)) ∧ (¬ (x622 = x626) → False))))) ∧ (¬ (((xs v3.toNatClampNeg) &&& 31) = 19) → ((((xs v3.toNatClampNeg) &&& 31) = 20 → ((vp_in (v3 + 1) L) ∧ ((vp_in (v3 + 2) L) ∧ (∃ post : Int32 → TMem → Prop, TMi κ.1.2.1 i_X10_spot 4 107 [.inr 0, .inl (xs (Int32.toNatClampNeg (v3 + 1))), .inl (xs (Int32.toNatClampNeg (v3 + 2)))] mem post ∧ ∀ (x645 : Int32) (m645 : TMem), post x645 m645 → (∃ post : Int32 → TMem → Prop, TMi κ.1.2.1 i_X11_spot 3 72 [.inr 187, .inl (xs (Int32.toNatClampNeg (v3 + 1))), .inl (xs (Int32.toNatClampNeg (v3 + 2)))] m645 post ∧ ∀ (x659 : Int32) (m659 : TMem), post x659 m659 → ((x645 = x659 → (WT κ 18 [some (.inr 999), some (.inr 0), some (.inr 187), some (.inl (v3 + 6))] [] m659)) ∧ (¬ (x645 = x659) → False))))))) ∧ (¬ (((xs v3.toNatClampNeg) &&& 31) = 20) → ((((xs v3.toNatClampNeg) &&& 31) = 21 → ((vp_in (v3 + 1) L) ∧ ((vp_in (v3 + 2) L) ∧ ((vp_in (v3 + 3) L) ∧ (∃ post : Int32 → TMem → Prop, TMi κ.1.2.1 i_X10_ears 1 23 [.inr 0, .inl (xs (Int32.toNatClampNeg (v3 + 1))), .inl (xs (Int32.toNatClampNeg (v3 + 2))), .inl (xs (Int32.toNatClampNeg (v3 + 3)))] mem post ∧ ∀ (x683 : Int32) (m683 : TMem), post x683 m683 → (∃ post : Int32 → TMem → Prop, TMi κ.1.2.1 i_X11_ears 1 22 [.inr 187, .inl (xs (Int32.toNatClampNeg (v3 + 1))), .inl (xs (Int32.toNatClampNeg (v3 + 2))), .inl (xs (Int32.toNatClampNeg (v3 + 3)))] m683 post ∧ ∀ (x702 : Int32) (m702 : TMem), post x702 m702 → ((x683 = x702 → (WT κ 18 [some (.inr 999), some (.inr 0), some (.inr 187), some (.inl (v3 + 6))] [] m702)) ∧ (¬ (x683 = x702) → False)))))))) ∧ (¬ (((xs v3.toNatClampNeg) &&& 31) = 21) → ((((xs v3.toNatClampNeg) &&& 31) = 22 → ((vp_in (v3 + 1) L) ∧ (∃ post : Int32 → TMem → Prop, TMi κ.1.2.1 i_X10_speech 3 67 [.inr 0, .inl (xs (Int32.toNatClampNeg (v3 + 1)))] mem post ∧ ∀ (x716 : Int32) (m716 : TMem), post x716 m716 → (∃ post : Int32 → TMem → Prop, TMi κ.1.2.1 i_X11_speech 1 25 [.inr 187, .inl (xs (Int32.toNatClampNeg (v3 + 1)))] m716 post ∧ ∀ (x725 : Int32) (m725 : TMem), post x725 m725 → ((x716 = x725 → (WT κ 18 [some (.inr 999), some (.inr 0), some (.inr 187), some (.inl (v3 + 6))] [] m725)) ∧ (¬ (x716 = x725) → False)))))) ∧ (¬ (((xs v3.toNatClampNeg) &&& 31) = 22) → ((((xs v3.toNatClampNeg) &&& 31) = 23 → ((vp_in (v3 + 1) L) ∧ (∃ post : Int32 → TMem → Prop, TMi κ.1.2.1 i_X10_count 1 20 [.inr 0, .inl (xs (Int32.toNatClampNeg (v3 + 1)))] mem post ∧ ∀ (x739 : Int32) (m739 : TMem), post x739 m739 → (∃ post : Int32 → TMem → Prop, TMi κ.1.2.1 i_X11_count 0 0 [.inr 187, .inl (xs (Int32.toNatClampNeg (v3 + 1)))] m739 post ∧ ∀ (x748 : Int32) (m748 : TMem), post x748 m748 → ((x739 = x748 → (WT κ 18 [some (.inr 999), some (.inr 0), some (.inr 187), some (.inl (v3 + 6))] [] m748)) ∧ (¬ (x739 = x748) → False)))))) ∧ (¬ (((xs v3.toNatClampNeg) &&& 31) = 23) → (WT κ 18 [some (.inr 999), some (.inr 0), some (.inr 187), some (.inl (v3 + 6))] [] mem)))))))))))))))))))))))))))))))))))))))))))))))))))) : WT κ 18 [some (.inr 999), some (.inr 0), some (.inr 187), some (.inl v3)] [] mem := by
  refine tr_iload_n hC dL_law_18 rfl rfl ?_
  refine tr_aload_n hC dL_law_19 rfl rfl ?_
  refine tr_slen hC hX dL_law_20 ?_
  refine tr_bipush (v := 6) hC dL_law_21 (by decide) ?_
  refine tr_isub hC dL_law_23 ?_
  refine tr_icmp_gt hC dL_law_24 (tgt := 762) rfl (fun c24 => ?_) (fun c24 => ?_)
  · replace h := h.1 c24
    refine tr_iconst (v := 1) hC dL_law_762 (by decide) ?_
    exact tr_lret hC hX dL_law_763
  · replace h := h.2 c24
    refine tr_aload_n hC dL_law_27 rfl rfl ?_
    refine tr_iload_n hC dL_law_28 rfl rfl ?_
    obtain ⟨g1, h⟩ := h
    refine tr_sld hC hX dL_law_29 g1 ?_
    refine tr_bipush (v := 31) hC dL_law_30 (by decide) ?_
    refine tr_iand hC dL_law_32 ?_
    by_cases s33_0 : ((xs v3.toNatClampNeg) &&& 31) = 0
    · replace h := h.1 s33_0
      refine tr_tabIn hC dL_law_33 (by rw [s33_0]; decide) (by rw [s33_0]; decide) (off := 111) (by rw [s33_0]; decide) (tgt := 144) rfl ?_
      refine tr_aload_n hC dL_law_144 rfl rfl ?_
      refine tr_aload_n hC dL_law_145 rfl rfl ?_
      refine tr_iload_n hC dL_law_146 rfl rfl ?_
      refine tr_iconst (v := 1) hC dL_law_147 (by decide) ?_
      refine tr_iadd hC dL_law_148 ?_
      obtain ⟨g2, h⟩ := h
      refine tr_sld hC hX dL_law_149 g2 ?_
      obtain ⟨post150, hM150, h⟩ := h
      refine tr_cVi (As := [.inl (xs (Int32.toNatClampNeg (v3 + 1)))]) (fr2 := 2) (lo2 := 42) hC dL_law_150 mc_L_13 mv_X10_feed sh_0 rfl ⟨Nat.le_of_ble_eq_true rfl, Nat.le_of_ble_eq_true rfl, Nat.le_of_ble_eq_true rfl⟩ rfl hM150 (fun x150 m150 hp150 => ?_)
      replace h := h x150 m150 hp150
      refine tr_aload_n hC dL_law_153 rfl rfl ?_
      refine tr_aload_n hC dL_law_154 rfl rfl ?_
      refine tr_iload_n hC dL_law_155 rfl rfl ?_
      refine tr_iconst (v := 1) hC dL_law_156 (by decide) ?_
      refine tr_iadd hC dL_law_157 ?_
      refine tr_sld hC hX dL_law_158 g2 ?_
      obtain ⟨post159, hM159, h⟩ := h
      refine tr_cVi (As := [.inl (xs (Int32.toNatClampNeg (v3 + 1)))]) (fr2 := 1) (lo2 := 22) hC dL_law_159 mc_L_17 mv_X11_feed sh_187 rfl ⟨Nat.le_of_ble_eq_true rfl, Nat.le_of_ble_eq_true rfl, Nat.le_of_ble_eq_true rfl⟩ rfl hM159 (fun x159 m159 hp159 => ?_)
      replace h := h x159 m159 hp159
      refine tr_icmp_eq hC dL_law_162 (tgt := 756) rfl (fun c162 => ?_) (fun c162 => ?_)
      · replace h := h.1 c162
        refine tr_iinc (v := v3 + 6) (loc2 := [some (.inr 999), some (.inr 0), some (.inr 187), some (.inl (v3 + 6))]) hC dL_law_756 rfl rfl (by decide) rfl ?_
        refine tr_goto hC dL_law_759 (tgt := 18) rfl ?_
        exact h
      · replace h := h.2 c162
        exact h.elim
    · replace h := h.2 s33_0
      by_cases s33_1 : ((xs v3.toNatClampNeg) &&& 31) = 1
      · replace h := h.1 s33_1
        refine tr_tabIn hC dL_law_33 (by rw [s33_1]; decide) (by rw [s33_1]; decide) (off := 134) (by rw [s33_1]; decide) (tgt := 167) rfl ?_
        refine tr_aload_n hC dL_law_167 rfl rfl ?_
        obtain ⟨post168, hM168, h⟩ := h
        refine tr_cVi (As := []) (fr2 := 2) (lo2 := 40) hC dL_law_168 mc_L_18 mv_X10_hush sh_0 rfl ⟨Nat.le_of_ble_eq_true rfl, Nat.le_of_ble_eq_true rfl, Nat.le_of_ble_eq_true rfl⟩ rfl hM168 (fun x168 m168 hp168 => ?_)
        replace h := h x168 m168 hp168
        refine tr_aload_n hC dL_law_171 rfl rfl ?_
        obtain ⟨post172, hM172, h⟩ := h
        refine tr_cVi (As := []) (fr2 := 0) (lo2 := 0) hC dL_law_172 mc_L_22 mv_X11_hush sh_187 rfl ⟨Nat.le_of_ble_eq_true rfl, Nat.le_of_ble_eq_true rfl, Nat.le_of_ble_eq_true rfl⟩ rfl hM172 (fun x172 m172 hp172 => ?_)
        replace h := h x172 m172 hp172
        refine tr_icmp_eq hC dL_law_175 (tgt := 756) rfl (fun c175 => ?_) (fun c175 => ?_)
        · replace h := h.1 c175
          refine tr_iinc (v := v3 + 6) (loc2 := [some (.inr 999), some (.inr 0), some (.inr 187), some (.inl (v3 + 6))]) hC dL_law_756 rfl rfl (by decide) rfl ?_
          refine tr_goto hC dL_law_759 (tgt := 18) rfl ?_
          exact h
        · replace h := h.2 c175
          exact h.elim
      · replace h := h.2 s33_1
        by_cases s33_2 : ((xs v3.toNatClampNeg) &&& 31) = 2
        · replace h := h.1 s33_2
          refine tr_tabIn hC dL_law_33 (by rw [s33_2]; decide) (by rw [s33_2]; decide) (off := 147) (by rw [s33_2]; decide) (tgt := 180) rfl ?_
          refine tr_aload_n hC dL_law_180 rfl rfl ?_
          refine tr_aload_n hC dL_law_181 rfl rfl ?_
          refine tr_iload_n hC dL_law_182 rfl rfl ?_
          refine tr_iconst (v := 1) hC dL_law_183 (by decide) ?_
          refine tr_iadd hC dL_law_184 ?_
          obtain ⟨g3, h⟩ := h
          refine tr_sld hC hX dL_law_185 g3 ?_
          refine tr_aload_n hC dL_law_186 rfl rfl ?_
          refine tr_iload_n hC dL_law_187 rfl rfl ?_
          refine tr_iconst (v := 2) hC dL_law_188 (by decide) ?_
          refine tr_iadd hC dL_law_189 ?_
          obtain ⟨g4, h⟩ := h
          refine tr_sld hC hX dL_law_190 g4 ?_
          refine tr_aload_n hC dL_law_191 rfl rfl ?_
          refine tr_iload_n hC dL_law_192 rfl rfl ?_
          refine tr_iconst (v := 3) hC dL_law_193 (by decide) ?_
          refine tr_iadd hC dL_law_194 ?_
          obtain ⟨g5, h⟩ := h
          refine tr_sld hC hX dL_law_195 g5 ?_
          obtain ⟨post196, hM196, h⟩ := h
          refine tr_cVi (As := [.inl (xs (Int32.toNatClampNeg (v3 + 1))), .inl (xs (Int32.toNatClampNeg (v3 + 2))), .inl (xs (Int32.toNatClampNeg (v3 + 3)))]) (fr2 := 2) (lo2 := 42) hC dL_law_196 mc_L_23 mv_X10_cost sh_0 rfl ⟨Nat.le_of_ble_eq_true rfl, Nat.le_of_ble_eq_true rfl, Nat.le_of_ble_eq_true rfl⟩ rfl hM196 (fun x196 m196 hp196 => ?_)
          replace h := h x196 m196 hp196
          refine tr_aload_n hC dL_law_199 rfl rfl ?_
          refine tr_aload_n hC dL_law_200 rfl rfl ?_
          refine tr_iload_n hC dL_law_201 rfl rfl ?_
          refine tr_iconst (v := 1) hC dL_law_202 (by decide) ?_
          refine tr_iadd hC dL_law_203 ?_
          refine tr_sld hC hX dL_law_204 g3 ?_
          refine tr_aload_n hC dL_law_205 rfl rfl ?_
          refine tr_iload_n hC dL_law_206 rfl rfl ?_
          refine tr_iconst (v := 2) hC dL_law_207 (by decide) ?_
          refine tr_iadd hC dL_law_208 ?_
          refine tr_sld hC hX dL_law_209 g4 ?_
          refine tr_aload_n hC dL_law_210 rfl rfl ?_
          refine tr_iload_n hC dL_law_211 rfl rfl ?_
          refine tr_iconst (v := 3) hC dL_law_212 (by decide) ?_
          refine tr_iadd hC dL_law_213 ?_
          refine tr_sld hC hX dL_law_214 g5 ?_
          obtain ⟨post215, hM215, h⟩ := h
          refine tr_cVi (As := [.inl (xs (Int32.toNatClampNeg (v3 + 1))), .inl (xs (Int32.toNatClampNeg (v3 + 2))), .inl (xs (Int32.toNatClampNeg (v3 + 3)))]) (fr2 := 1) (lo2 := 22) hC dL_law_215 mc_L_27 mv_X11_cost sh_187 rfl ⟨Nat.le_of_ble_eq_true rfl, Nat.le_of_ble_eq_true rfl, Nat.le_of_ble_eq_true rfl⟩ rfl hM215 (fun x215 m215 hp215 => ?_)
          replace h := h x215 m215 hp215
          refine tr_icmp_eq hC dL_law_218 (tgt := 756) rfl (fun c218 => ?_) (fun c218 => ?_)
          · replace h := h.1 c218
            refine tr_iinc (v := v3 + 6) (loc2 := [some (.inr 999), some (.inr 0), some (.inr 187), some (.inl (v3 + 6))]) hC dL_law_756 rfl rfl (by decide) rfl ?_
            refine tr_goto hC dL_law_759 (tgt := 18) rfl ?_
            exact h
          · replace h := h.2 c218
            exact h.elim
        · replace h := h.2 s33_2
          by_cases s33_3 : ((xs v3.toNatClampNeg) &&& 31) = 3
          · replace h := h.1 s33_3
            refine tr_tabIn hC dL_law_33 (by rw [s33_3]; decide) (by rw [s33_3]; decide) (off := 190) (by rw [s33_3]; decide) (tgt := 223) rfl ?_
            refine tr_aload_n hC dL_law_223 rfl rfl ?_
            refine tr_aload_n hC dL_law_224 rfl rfl ?_
            refine tr_iload_n hC dL_law_225 rfl rfl ?_
            refine tr_iconst (v := 1) hC dL_law_226 (by decide) ?_
            refine tr_iadd hC dL_law_227 ?_
            obtain ⟨g6, h⟩ := h
            refine tr_sld hC hX dL_law_228 g6 ?_
            obtain ⟨post229, hM229, h⟩ := h
            refine tr_cVi (As := [.inl (xs (Int32.toNatClampNeg (v3 + 1)))]) (fr2 := 2) (lo2 := 40) hC dL_law_229 mc_L_28 mv_X10_stay sh_0 rfl ⟨Nat.le_of_ble_eq_true rfl, Nat.le_of_ble_eq_true rfl, Nat.le_of_ble_eq_true rfl⟩ rfl hM229 (fun x229 m229 hp229 => ?_)
            replace h := h x229 m229 hp229
            refine tr_aload_n hC dL_law_232 rfl rfl ?_
            refine tr_aload_n hC dL_law_233 rfl rfl ?_
            refine tr_iload_n hC dL_law_234 rfl rfl ?_
            refine tr_iconst (v := 1) hC dL_law_235 (by decide) ?_
            refine tr_iadd hC dL_law_236 ?_
            refine tr_sld hC hX dL_law_237 g6 ?_
            obtain ⟨post238, hM238, h⟩ := h
            refine tr_cVi (As := [.inl (xs (Int32.toNatClampNeg (v3 + 1)))]) (fr2 := 1) (lo2 := 22) hC dL_law_238 mc_L_31 mv_X11_stay sh_187 rfl ⟨Nat.le_of_ble_eq_true rfl, Nat.le_of_ble_eq_true rfl, Nat.le_of_ble_eq_true rfl⟩ rfl hM238 (fun x238 m238 hp238 => ?_)
            replace h := h x238 m238 hp238
            refine tr_icmp_eq hC dL_law_241 (tgt := 756) rfl (fun c241 => ?_) (fun c241 => ?_)
            · replace h := h.1 c241
              refine tr_iinc (v := v3 + 6) (loc2 := [some (.inr 999), some (.inr 0), some (.inr 187), some (.inl (v3 + 6))]) hC dL_law_756 rfl rfl (by decide) rfl ?_
              refine tr_goto hC dL_law_759 (tgt := 18) rfl ?_
              exact h
            · replace h := h.2 c241
              exact h.elim
          · replace h := h.2 s33_3
            by_cases s33_4 : ((xs v3.toNatClampNeg) &&& 31) = 4
            · replace h := h.1 s33_4
              refine tr_tabIn hC dL_law_33 (by rw [s33_4]; decide) (by rw [s33_4]; decide) (off := 213) (by rw [s33_4]; decide) (tgt := 246) rfl ?_
              refine tr_aload_n hC dL_law_246 rfl rfl ?_
              refine tr_aload_n hC dL_law_247 rfl rfl ?_
              refine tr_iload_n hC dL_law_248 rfl rfl ?_
              refine tr_iconst (v := 1) hC dL_law_249 (by decide) ?_
              refine tr_iadd hC dL_law_250 ?_
              obtain ⟨g7, h⟩ := h
              refine tr_sld hC hX dL_law_251 g7 ?_
              refine tr_aload_n hC dL_law_252 rfl rfl ?_
              refine tr_iload_n hC dL_law_253 rfl rfl ?_
              refine tr_iconst (v := 2) hC dL_law_254 (by decide) ?_
              refine tr_iadd hC dL_law_255 ?_
              obtain ⟨g8, h⟩ := h
              refine tr_sld hC hX dL_law_256 g8 ?_
              refine tr_aload_n hC dL_law_257 rfl rfl ?_
              refine tr_iload_n hC dL_law_258 rfl rfl ?_
              refine tr_iconst (v := 3) hC dL_law_259 (by decide) ?_
              refine tr_iadd hC dL_law_260 ?_
              obtain ⟨g9, h⟩ := h
              refine tr_sld hC hX dL_law_261 g9 ?_
              refine tr_aload_n hC dL_law_262 rfl rfl ?_
              refine tr_iload_n hC dL_law_263 rfl rfl ?_
              refine tr_iconst (v := 4) hC dL_law_264 (by decide) ?_
              refine tr_iadd hC dL_law_265 ?_
              obtain ⟨g10, h⟩ := h
              refine tr_sld hC hX dL_law_266 g10 ?_
              obtain ⟨post267, hM267, h⟩ := h
              refine tr_cVi (As := [.inl (xs (Int32.toNatClampNeg (v3 + 1))), .inl (xs (Int32.toNatClampNeg (v3 + 2))), .inl (xs (Int32.toNatClampNeg (v3 + 3))), .inl (xs (Int32.toNatClampNeg (v3 + 4)))]) (fr2 := 4) (lo2 := 86) hC dL_law_267 mc_L_32 mv_X10_word sh_0 rfl ⟨Nat.le_of_ble_eq_true rfl, Nat.le_of_ble_eq_true rfl, Nat.le_of_ble_eq_true rfl⟩ rfl hM267 (fun x267 m267 hp267 => ?_)
              replace h := h x267 m267 hp267
              refine tr_aload_n hC dL_law_270 rfl rfl ?_
              refine tr_aload_n hC dL_law_271 rfl rfl ?_
              refine tr_iload_n hC dL_law_272 rfl rfl ?_
              refine tr_iconst (v := 1) hC dL_law_273 (by decide) ?_
              refine tr_iadd hC dL_law_274 ?_
              refine tr_sld hC hX dL_law_275 g7 ?_
              refine tr_aload_n hC dL_law_276 rfl rfl ?_
              refine tr_iload_n hC dL_law_277 rfl rfl ?_
              refine tr_iconst (v := 2) hC dL_law_278 (by decide) ?_
              refine tr_iadd hC dL_law_279 ?_
              refine tr_sld hC hX dL_law_280 g8 ?_
              refine tr_aload_n hC dL_law_281 rfl rfl ?_
              refine tr_iload_n hC dL_law_282 rfl rfl ?_
              refine tr_iconst (v := 3) hC dL_law_283 (by decide) ?_
              refine tr_iadd hC dL_law_284 ?_
              refine tr_sld hC hX dL_law_285 g9 ?_
              refine tr_aload_n hC dL_law_286 rfl rfl ?_
              refine tr_iload_n hC dL_law_287 rfl rfl ?_
              refine tr_iconst (v := 4) hC dL_law_288 (by decide) ?_
              refine tr_iadd hC dL_law_289 ?_
              refine tr_sld hC hX dL_law_290 g10 ?_
              obtain ⟨post291, hM291, h⟩ := h
              refine tr_cVi (As := [.inl (xs (Int32.toNatClampNeg (v3 + 1))), .inl (xs (Int32.toNatClampNeg (v3 + 2))), .inl (xs (Int32.toNatClampNeg (v3 + 3))), .inl (xs (Int32.toNatClampNeg (v3 + 4)))]) (fr2 := 2) (lo2 := 46) hC dL_law_291 mc_L_36 mv_X11_word sh_187 rfl ⟨Nat.le_of_ble_eq_true rfl, Nat.le_of_ble_eq_true rfl, Nat.le_of_ble_eq_true rfl⟩ rfl hM291 (fun x291 m291 hp291 => ?_)
              replace h := h x291 m291 hp291
              refine tr_icmp_eq hC dL_law_294 (tgt := 756) rfl (fun c294 => ?_) (fun c294 => ?_)
              · replace h := h.1 c294
                refine tr_iinc (v := v3 + 6) (loc2 := [some (.inr 999), some (.inr 0), some (.inr 187), some (.inl (v3 + 6))]) hC dL_law_756 rfl rfl (by decide) rfl ?_
                refine tr_goto hC dL_law_759 (tgt := 18) rfl ?_
                exact h
              · replace h := h.2 c294
                exact h.elim
            · replace h := h.2 s33_4
              by_cases s33_5 : ((xs v3.toNatClampNeg) &&& 31) = 5
              · replace h := h.1 s33_5
                refine tr_tabIn hC dL_law_33 (by rw [s33_5]; decide) (by rw [s33_5]; decide) (off := 266) (by rw [s33_5]; decide) (tgt := 299) rfl ?_
                refine tr_aload_n hC dL_law_299 rfl rfl ?_
                refine tr_aload_n hC dL_law_300 rfl rfl ?_
                refine tr_iload_n hC dL_law_301 rfl rfl ?_
                refine tr_iconst (v := 1) hC dL_law_302 (by decide) ?_
                refine tr_iadd hC dL_law_303 ?_
                obtain ⟨g11, h⟩ := h
                refine tr_sld hC hX dL_law_304 g11 ?_
                refine tr_aload_n hC dL_law_305 rfl rfl ?_
                refine tr_iload_n hC dL_law_306 rfl rfl ?_
                refine tr_iconst (v := 2) hC dL_law_307 (by decide) ?_
                refine tr_iadd hC dL_law_308 ?_
                obtain ⟨g12, h⟩ := h
                refine tr_sld hC hX dL_law_309 g12 ?_
                refine tr_aload_n hC dL_law_310 rfl rfl ?_
                refine tr_iload_n hC dL_law_311 rfl rfl ?_
                refine tr_iconst (v := 3) hC dL_law_312 (by decide) ?_
                refine tr_iadd hC dL_law_313 ?_
                obtain ⟨g13, h⟩ := h
                refine tr_sld hC hX dL_law_314 g13 ?_
                refine tr_aload_n hC dL_law_315 rfl rfl ?_
                refine tr_iload_n hC dL_law_316 rfl rfl ?_
                refine tr_iconst (v := 4) hC dL_law_317 (by decide) ?_
                refine tr_iadd hC dL_law_318 ?_
                obtain ⟨g14, h⟩ := h
                refine tr_sld hC hX dL_law_319 g14 ?_
                refine tr_aload_n hC dL_law_320 rfl rfl ?_
                refine tr_iload_n hC dL_law_321 rfl rfl ?_
                refine tr_iconst (v := 5) hC dL_law_322 (by decide) ?_
                refine tr_iadd hC dL_law_323 ?_
                obtain ⟨g15, h⟩ := h
                refine tr_sld hC hX dL_law_324 g15 ?_
                obtain ⟨post325, hM325, h⟩ := h
                refine tr_cVi (As := [.inl (xs (Int32.toNatClampNeg (v3 + 1))), .inl (xs (Int32.toNatClampNeg (v3 + 2))), .inl (xs (Int32.toNatClampNeg (v3 + 3))), .inl (xs (Int32.toNatClampNeg (v3 + 4))), .inl (xs (Int32.toNatClampNeg (v3 + 5)))]) (fr2 := 4) (lo2 := 86) hC dL_law_325 mc_L_37 mv_X10_way sh_0 rfl ⟨Nat.le_of_ble_eq_true rfl, Nat.le_of_ble_eq_true rfl, Nat.le_of_ble_eq_true rfl⟩ rfl hM325 (fun x325 m325 hp325 => ?_)
                replace h := h x325 m325 hp325
                refine tr_aload_n hC dL_law_328 rfl rfl ?_
                refine tr_aload_n hC dL_law_329 rfl rfl ?_
                refine tr_iload_n hC dL_law_330 rfl rfl ?_
                refine tr_iconst (v := 1) hC dL_law_331 (by decide) ?_
                refine tr_iadd hC dL_law_332 ?_
                refine tr_sld hC hX dL_law_333 g11 ?_
                refine tr_aload_n hC dL_law_334 rfl rfl ?_
                refine tr_iload_n hC dL_law_335 rfl rfl ?_
                refine tr_iconst (v := 2) hC dL_law_336 (by decide) ?_
                refine tr_iadd hC dL_law_337 ?_
                refine tr_sld hC hX dL_law_338 g12 ?_
                refine tr_aload_n hC dL_law_339 rfl rfl ?_
                refine tr_iload_n hC dL_law_340 rfl rfl ?_
                refine tr_iconst (v := 3) hC dL_law_341 (by decide) ?_
                refine tr_iadd hC dL_law_342 ?_
                refine tr_sld hC hX dL_law_343 g13 ?_
                refine tr_aload_n hC dL_law_344 rfl rfl ?_
                refine tr_iload_n hC dL_law_345 rfl rfl ?_
                refine tr_iconst (v := 4) hC dL_law_346 (by decide) ?_
                refine tr_iadd hC dL_law_347 ?_
                refine tr_sld hC hX dL_law_348 g14 ?_
                refine tr_aload_n hC dL_law_349 rfl rfl ?_
                refine tr_iload_n hC dL_law_350 rfl rfl ?_
                refine tr_iconst (v := 5) hC dL_law_351 (by decide) ?_
                refine tr_iadd hC dL_law_352 ?_
                refine tr_sld hC hX dL_law_353 g15 ?_
                obtain ⟨post354, hM354, h⟩ := h
                refine tr_cVi (As := [.inl (xs (Int32.toNatClampNeg (v3 + 1))), .inl (xs (Int32.toNatClampNeg (v3 + 2))), .inl (xs (Int32.toNatClampNeg (v3 + 3))), .inl (xs (Int32.toNatClampNeg (v3 + 4))), .inl (xs (Int32.toNatClampNeg (v3 + 5)))]) (fr2 := 2) (lo2 := 46) hC dL_law_354 mc_L_41 mv_X11_way sh_187 rfl ⟨Nat.le_of_ble_eq_true rfl, Nat.le_of_ble_eq_true rfl, Nat.le_of_ble_eq_true rfl⟩ rfl hM354 (fun x354 m354 hp354 => ?_)
                replace h := h x354 m354 hp354
                refine tr_icmp_eq hC dL_law_357 (tgt := 756) rfl (fun c357 => ?_) (fun c357 => ?_)
                · replace h := h.1 c357
                  refine tr_iinc (v := v3 + 6) (loc2 := [some (.inr 999), some (.inr 0), some (.inr 187), some (.inl (v3 + 6))]) hC dL_law_756 rfl rfl (by decide) rfl ?_
                  refine tr_goto hC dL_law_759 (tgt := 18) rfl ?_
                  exact h
                · replace h := h.2 c357
                  exact h.elim
              · replace h := h.2 s33_5
                by_cases s33_6 : ((xs v3.toNatClampNeg) &&& 31) = 6
                · replace h := h.1 s33_6
                  refine tr_tabIn hC dL_law_33 (by rw [s33_6]; decide) (by rw [s33_6]; decide) (off := 329) (by rw [s33_6]; decide) (tgt := 362) rfl ?_
                  refine tr_aload_n hC dL_law_362 rfl rfl ?_
                  refine tr_aload_n hC dL_law_363 rfl rfl ?_
                  refine tr_iload_n hC dL_law_364 rfl rfl ?_
                  refine tr_iconst (v := 1) hC dL_law_365 (by decide) ?_
                  refine tr_iadd hC dL_law_366 ?_
                  obtain ⟨g16, h⟩ := h
                  refine tr_sld hC hX dL_law_367 g16 ?_
                  refine tr_aload_n hC dL_law_368 rfl rfl ?_
                  refine tr_iload_n hC dL_law_369 rfl rfl ?_
                  refine tr_iconst (v := 2) hC dL_law_370 (by decide) ?_
                  refine tr_iadd hC dL_law_371 ?_
                  obtain ⟨g17, h⟩ := h
                  refine tr_sld hC hX dL_law_372 g17 ?_
                  refine tr_aload_n hC dL_law_373 rfl rfl ?_
                  refine tr_iload_n hC dL_law_374 rfl rfl ?_
                  refine tr_iconst (v := 3) hC dL_law_375 (by decide) ?_
                  refine tr_iadd hC dL_law_376 ?_
                  obtain ⟨g18, h⟩ := h
                  refine tr_sld hC hX dL_law_377 g18 ?_
                  obtain ⟨post378, hM378, h⟩ := h
                  refine tr_cVi (As := [.inl (xs (Int32.toNatClampNeg (v3 + 1))), .inl (xs (Int32.toNatClampNeg (v3 + 2))), .inl (xs (Int32.toNatClampNeg (v3 + 3)))]) (fr2 := 3) (lo2 := 64) hC dL_law_378 mc_L_42 mv_X10_grammar sh_0 rfl ⟨Nat.le_of_ble_eq_true rfl, Nat.le_of_ble_eq_true rfl, Nat.le_of_ble_eq_true rfl⟩ rfl hM378 (fun x378 m378 hp378 => ?_)
                  replace h := h x378 m378 hp378
                  refine tr_aload_n hC dL_law_381 rfl rfl ?_
                  refine tr_aload_n hC dL_law_382 rfl rfl ?_
                  refine tr_iload_n hC dL_law_383 rfl rfl ?_
                  refine tr_iconst (v := 1) hC dL_law_384 (by decide) ?_
                  refine tr_iadd hC dL_law_385 ?_
                  refine tr_sld hC hX dL_law_386 g16 ?_
                  refine tr_aload_n hC dL_law_387 rfl rfl ?_
                  refine tr_iload_n hC dL_law_388 rfl rfl ?_
                  refine tr_iconst (v := 2) hC dL_law_389 (by decide) ?_
                  refine tr_iadd hC dL_law_390 ?_
                  refine tr_sld hC hX dL_law_391 g17 ?_
                  refine tr_aload_n hC dL_law_392 rfl rfl ?_
                  refine tr_iload_n hC dL_law_393 rfl rfl ?_
                  refine tr_iconst (v := 3) hC dL_law_394 (by decide) ?_
                  refine tr_iadd hC dL_law_395 ?_
                  refine tr_sld hC hX dL_law_396 g18 ?_
                  obtain ⟨post397, hM397, h⟩ := h
                  refine tr_cVi (As := [.inl (xs (Int32.toNatClampNeg (v3 + 1))), .inl (xs (Int32.toNatClampNeg (v3 + 2))), .inl (xs (Int32.toNatClampNeg (v3 + 3)))]) (fr2 := 2) (lo2 := 43) hC dL_law_397 mc_L_45 mv_X11_grammar sh_187 rfl ⟨Nat.le_of_ble_eq_true rfl, Nat.le_of_ble_eq_true rfl, Nat.le_of_ble_eq_true rfl⟩ rfl hM397 (fun x397 m397 hp397 => ?_)
                  replace h := h x397 m397 hp397
                  refine tr_icmp_eq hC dL_law_400 (tgt := 756) rfl (fun c400 => ?_) (fun c400 => ?_)
                  · replace h := h.1 c400
                    refine tr_iinc (v := v3 + 6) (loc2 := [some (.inr 999), some (.inr 0), some (.inr 187), some (.inl (v3 + 6))]) hC dL_law_756 rfl rfl (by decide) rfl ?_
                    refine tr_goto hC dL_law_759 (tgt := 18) rfl ?_
                    exact h
                  · replace h := h.2 c400
                    exact h.elim
                · replace h := h.2 s33_6
                  by_cases s33_7 : ((xs v3.toNatClampNeg) &&& 31) = 7
                  · replace h := h.1 s33_7
                    refine tr_tabIn hC dL_law_33 (by rw [s33_7]; decide) (by rw [s33_7]; decide) (off := 372) (by rw [s33_7]; decide) (tgt := 405) rfl ?_
                    refine tr_aload_n hC dL_law_405 rfl rfl ?_
                    obtain ⟨post406, hM406, h⟩ := h
                    refine tr_cVi (As := []) (fr2 := 6) (lo2 := 153) hC dL_law_406 mc_L_46 mv_X10_least sh_0 rfl ⟨Nat.le_of_ble_eq_true rfl, Nat.le_of_ble_eq_true rfl, Nat.le_of_ble_eq_true rfl⟩ rfl hM406 (fun x406 m406 hp406 => ?_)
                    replace h := h x406 m406 hp406
                    refine tr_aload_n hC dL_law_409 rfl rfl ?_
                    obtain ⟨post410, hM410, h⟩ := h
                    refine tr_cVi (As := []) (fr2 := 5) (lo2 := 116) hC dL_law_410 mc_L_49 mv_X11_least sh_187 rfl ⟨Nat.le_of_ble_eq_true rfl, Nat.le_of_ble_eq_true rfl, Nat.le_of_ble_eq_true rfl⟩ rfl hM410 (fun x410 m410 hp410 => ?_)
                    replace h := h x410 m410 hp410
                    refine tr_icmp_eq hC dL_law_413 (tgt := 756) rfl (fun c413 => ?_) (fun c413 => ?_)
                    · replace h := h.1 c413
                      refine tr_iinc (v := v3 + 6) (loc2 := [some (.inr 999), some (.inr 0), some (.inr 187), some (.inl (v3 + 6))]) hC dL_law_756 rfl rfl (by decide) rfl ?_
                      refine tr_goto hC dL_law_759 (tgt := 18) rfl ?_
                      exact h
                    · replace h := h.2 c413
                      exact h.elim
                  · replace h := h.2 s33_7
                    by_cases s33_8 : ((xs v3.toNatClampNeg) &&& 31) = 8
                    · replace h := h.1 s33_8
                      refine tr_tabIn hC dL_law_33 (by rw [s33_8]; decide) (by rw [s33_8]; decide) (off := 385) (by rw [s33_8]; decide) (tgt := 418) rfl ?_
                      refine tr_aload_n hC dL_law_418 rfl rfl ?_
                      obtain ⟨post419, hM419, h⟩ := h
                      refine tr_cVi (As := []) (fr2 := 6) (lo2 := 153) hC dL_law_419 mc_L_50 mv_X10_rowSize sh_0 rfl ⟨Nat.le_of_ble_eq_true rfl, Nat.le_of_ble_eq_true rfl, Nat.le_of_ble_eq_true rfl⟩ rfl hM419 (fun x419 m419 hp419 => ?_)
                      replace h := h x419 m419 hp419
                      refine tr_aload_n hC dL_law_422 rfl rfl ?_
                      obtain ⟨post423, hM423, h⟩ := h
                      refine tr_cVi (As := []) (fr2 := 6) (lo2 := 140) hC dL_law_423 mc_L_53 mv_X11_rowSize sh_187 rfl ⟨Nat.le_of_ble_eq_true rfl, Nat.le_of_ble_eq_true rfl, Nat.le_of_ble_eq_true rfl⟩ rfl hM423 (fun x423 m423 hp423 => ?_)
                      replace h := h x423 m423 hp423
                      refine tr_icmp_eq hC dL_law_426 (tgt := 756) rfl (fun c426 => ?_) (fun c426 => ?_)
                      · replace h := h.1 c426
                        refine tr_iinc (v := v3 + 6) (loc2 := [some (.inr 999), some (.inr 0), some (.inr 187), some (.inl (v3 + 6))]) hC dL_law_756 rfl rfl (by decide) rfl ?_
                        refine tr_goto hC dL_law_759 (tgt := 18) rfl ?_
                        exact h
                      · replace h := h.2 c426
                        exact h.elim
                    · replace h := h.2 s33_8
                      by_cases s33_9 : ((xs v3.toNatClampNeg) &&& 31) = 9
                      · replace h := h.1 s33_9
                        refine tr_tabIn hC dL_law_33 (by rw [s33_9]; decide) (by rw [s33_9]; decide) (off := 398) (by rw [s33_9]; decide) (tgt := 431) rfl ?_
                        refine tr_aload_n hC dL_law_431 rfl rfl ?_
                        refine tr_aload_n hC dL_law_432 rfl rfl ?_
                        refine tr_iload_n hC dL_law_433 rfl rfl ?_
                        refine tr_iconst (v := 1) hC dL_law_434 (by decide) ?_
                        refine tr_iadd hC dL_law_435 ?_
                        obtain ⟨g19, h⟩ := h
                        refine tr_sld hC hX dL_law_436 g19 ?_
                        obtain ⟨post437, hM437, h⟩ := h
                        refine tr_cVi (As := [.inl (xs (Int32.toNatClampNeg (v3 + 1)))]) (fr2 := 6) (lo2 := 153) hC dL_law_437 mc_L_54 mv_X10_rowAt sh_0 rfl ⟨Nat.le_of_ble_eq_true rfl, Nat.le_of_ble_eq_true rfl, Nat.le_of_ble_eq_true rfl⟩ rfl hM437 (fun x437 m437 hp437 => ?_)
                        replace h := h x437 m437 hp437
                        refine tr_aload_n hC dL_law_440 rfl rfl ?_
                        refine tr_aload_n hC dL_law_441 rfl rfl ?_
                        refine tr_iload_n hC dL_law_442 rfl rfl ?_
                        refine tr_iconst (v := 1) hC dL_law_443 (by decide) ?_
                        refine tr_iadd hC dL_law_444 ?_
                        refine tr_sld hC hX dL_law_445 g19 ?_
                        obtain ⟨post446, hM446, h⟩ := h
                        refine tr_cVi (As := [.inl (xs (Int32.toNatClampNeg (v3 + 1)))]) (fr2 := 6) (lo2 := 140) hC dL_law_446 mc_L_57 mv_X11_rowAt sh_187 rfl ⟨Nat.le_of_ble_eq_true rfl, Nat.le_of_ble_eq_true rfl, Nat.le_of_ble_eq_true rfl⟩ rfl hM446 (fun x446 m446 hp446 => ?_)
                        replace h := h x446 m446 hp446
                        refine tr_icmp_eq hC dL_law_449 (tgt := 756) rfl (fun c449 => ?_) (fun c449 => ?_)
                        · replace h := h.1 c449
                          refine tr_iinc (v := v3 + 6) (loc2 := [some (.inr 999), some (.inr 0), some (.inr 187), some (.inl (v3 + 6))]) hC dL_law_756 rfl rfl (by decide) rfl ?_
                          refine tr_goto hC dL_law_759 (tgt := 18) rfl ?_
                          exact h
                        · replace h := h.2 c449
                          exact h.elim
                      · replace h := h.2 s33_9
                        by_cases s33_10 : ((xs v3.toNatClampNeg) &&& 31) = 10
                        · replace h := h.1 s33_10
                          refine tr_tabIn hC dL_law_33 (by rw [s33_10]; decide) (by rw [s33_10]; decide) (off := 421) (by rw [s33_10]; decide) (tgt := 454) rfl ?_
                          refine tr_aload_n hC dL_law_454 rfl rfl ?_
                          obtain ⟨post455, hM455, h⟩ := h
                          refine tr_cVi (As := []) (fr2 := 6) (lo2 := 153) hC dL_law_455 mc_L_58 mv_X10_beside sh_0 rfl ⟨Nat.le_of_ble_eq_true rfl, Nat.le_of_ble_eq_true rfl, Nat.le_of_ble_eq_true rfl⟩ rfl hM455 (fun x455 m455 hp455 => ?_)
                          replace h := h x455 m455 hp455
                          refine tr_aload_n hC dL_law_458 rfl rfl ?_
                          obtain ⟨post459, hM459, h⟩ := h
                          refine tr_cVi (As := []) (fr2 := 6) (lo2 := 140) hC dL_law_459 mc_L_61 mv_X11_beside sh_187 rfl ⟨Nat.le_of_ble_eq_true rfl, Nat.le_of_ble_eq_true rfl, Nat.le_of_ble_eq_true rfl⟩ rfl hM459 (fun x459 m459 hp459 => ?_)
                          replace h := h x459 m459 hp459
                          refine tr_icmp_eq hC dL_law_462 (tgt := 756) rfl (fun c462 => ?_) (fun c462 => ?_)
                          · replace h := h.1 c462
                            refine tr_iinc (v := v3 + 6) (loc2 := [some (.inr 999), some (.inr 0), some (.inr 187), some (.inl (v3 + 6))]) hC dL_law_756 rfl rfl (by decide) rfl ?_
                            refine tr_goto hC dL_law_759 (tgt := 18) rfl ?_
                            exact h
                          · replace h := h.2 c462
                            exact h.elim
                        · replace h := h.2 s33_10
                          by_cases s33_11 : ((xs v3.toNatClampNeg) &&& 31) = 11
                          · replace h := h.1 s33_11
                            refine tr_tabIn hC dL_law_33 (by rw [s33_11]; decide) (by rw [s33_11]; decide) (off := 434) (by rw [s33_11]; decide) (tgt := 467) rfl ?_
                            refine tr_aload_n hC dL_law_467 rfl rfl ?_
                            refine tr_aload_n hC dL_law_468 rfl rfl ?_
                            refine tr_iload_n hC dL_law_469 rfl rfl ?_
                            refine tr_iconst (v := 1) hC dL_law_470 (by decide) ?_
                            refine tr_iadd hC dL_law_471 ?_
                            obtain ⟨g20, h⟩ := h
                            refine tr_sld hC hX dL_law_472 g20 ?_
                            obtain ⟨post473, hM473, h⟩ := h
                            refine tr_cVi (As := [.inl (xs (Int32.toNatClampNeg (v3 + 1)))]) (fr2 := 2) (lo2 := 43) hC dL_law_473 mc_L_62 mv_X10_say sh_0 rfl ⟨Nat.le_of_ble_eq_true rfl, Nat.le_of_ble_eq_true rfl, Nat.le_of_ble_eq_true rfl⟩ rfl hM473 (fun x473 m473 hp473 => ?_)
                            replace h := h x473 m473 hp473
                            refine tr_aload_n hC dL_law_476 rfl rfl ?_
                            refine tr_aload_n hC dL_law_477 rfl rfl ?_
                            refine tr_iload_n hC dL_law_478 rfl rfl ?_
                            refine tr_iconst (v := 1) hC dL_law_479 (by decide) ?_
                            refine tr_iadd hC dL_law_480 ?_
                            refine tr_sld hC hX dL_law_481 g20 ?_
                            obtain ⟨post482, hM482, h⟩ := h
                            refine tr_cVi (As := [.inl (xs (Int32.toNatClampNeg (v3 + 1)))]) (fr2 := 2) (lo2 := 43) hC dL_law_482 mc_L_65 mv_X11_say sh_187 rfl ⟨Nat.le_of_ble_eq_true rfl, Nat.le_of_ble_eq_true rfl, Nat.le_of_ble_eq_true rfl⟩ rfl hM482 (fun x482 m482 hp482 => ?_)
                            replace h := h x482 m482 hp482
                            refine tr_icmp_eq hC dL_law_485 (tgt := 756) rfl (fun c485 => ?_) (fun c485 => ?_)
                            · replace h := h.1 c485
                              refine tr_iinc (v := v3 + 6) (loc2 := [some (.inr 999), some (.inr 0), some (.inr 187), some (.inl (v3 + 6))]) hC dL_law_756 rfl rfl (by decide) rfl ?_
                              refine tr_goto hC dL_law_759 (tgt := 18) rfl ?_
                              exact h
                            · replace h := h.2 c485
                              exact h.elim
                          · replace h := h.2 s33_11
                            by_cases s33_12 : ((xs v3.toNatClampNeg) &&& 31) = 12
                            · replace h := h.1 s33_12
                              refine tr_tabIn hC dL_law_33 (by rw [s33_12]; decide) (by rw [s33_12]; decide) (off := 457) (by rw [s33_12]; decide) (tgt := 490) rfl ?_
                              refine tr_aload_n hC dL_law_490 rfl rfl ?_
                              obtain ⟨post491, hM491, h⟩ := h
                              refine tr_cVi (As := []) (fr2 := 1) (lo2 := 20) hC dL_law_491 mc_L_66 mv_X10_unsay sh_0 rfl ⟨Nat.le_of_ble_eq_true rfl, Nat.le_of_ble_eq_true rfl, Nat.le_of_ble_eq_true rfl⟩ rfl hM491 (fun x491 m491 hp491 => ?_)
                              replace h := h x491 m491 hp491
                              refine tr_aload_n hC dL_law_494 rfl rfl ?_
                              obtain ⟨post495, hM495, h⟩ := h
                              refine tr_cVi (As := []) (fr2 := 0) (lo2 := 0) hC dL_law_495 mc_L_69 mv_X11_unsay sh_187 rfl ⟨Nat.le_of_ble_eq_true rfl, Nat.le_of_ble_eq_true rfl, Nat.le_of_ble_eq_true rfl⟩ rfl hM495 (fun x495 m495 hp495 => ?_)
                              replace h := h x495 m495 hp495
                              refine tr_icmp_eq hC dL_law_498 (tgt := 756) rfl (fun c498 => ?_) (fun c498 => ?_)
                              · replace h := h.1 c498
                                refine tr_iinc (v := v3 + 6) (loc2 := [some (.inr 999), some (.inr 0), some (.inr 187), some (.inl (v3 + 6))]) hC dL_law_756 rfl rfl (by decide) rfl ?_
                                refine tr_goto hC dL_law_759 (tgt := 18) rfl ?_
                                exact h
                              · replace h := h.2 c498
                                exact h.elim
                            · replace h := h.2 s33_12
                              by_cases s33_13 : ((xs v3.toNatClampNeg) &&& 31) = 13
                              · replace h := h.1 s33_13
                                refine tr_tabIn hC dL_law_33 (by rw [s33_13]; decide) (by rw [s33_13]; decide) (off := 470) (by rw [s33_13]; decide) (tgt := 503) rfl ?_
                                refine tr_aload_n hC dL_law_503 rfl rfl ?_
                                obtain ⟨post504, hM504, h⟩ := h
                                refine tr_cVi (As := []) (fr2 := 4) (lo2 := 99) hC dL_law_504 mc_L_70 mv_X10_lay sh_0 rfl ⟨Nat.le_of_ble_eq_true rfl, Nat.le_of_ble_eq_true rfl, Nat.le_of_ble_eq_true rfl⟩ rfl hM504 (fun x504 m504 hp504 => ?_)
                                replace h := h x504 m504 hp504
                                refine tr_aload_n hC dL_law_507 rfl rfl ?_
                                obtain ⟨post508, hM508, h⟩ := h
                                refine tr_cVi (As := []) (fr2 := 5) (lo2 := 125) hC dL_law_508 mc_L_73 mv_X11_lay sh_187 rfl ⟨Nat.le_of_ble_eq_true rfl, Nat.le_of_ble_eq_true rfl, Nat.le_of_ble_eq_true rfl⟩ rfl hM508 (fun x508 m508 hp508 => ?_)
                                replace h := h x508 m508 hp508
                                refine tr_icmp_eq hC dL_law_511 (tgt := 756) rfl (fun c511 => ?_) (fun c511 => ?_)
                                · replace h := h.1 c511
                                  refine tr_iinc (v := v3 + 6) (loc2 := [some (.inr 999), some (.inr 0), some (.inr 187), some (.inl (v3 + 6))]) hC dL_law_756 rfl rfl (by decide) rfl ?_
                                  refine tr_goto hC dL_law_759 (tgt := 18) rfl ?_
                                  exact h
                                · replace h := h.2 c511
                                  exact h.elim
                              · replace h := h.2 s33_13
                                by_cases s33_14 : ((xs v3.toNatClampNeg) &&& 31) = 14
                                · replace h := h.1 s33_14
                                  refine tr_tabIn hC dL_law_33 (by rw [s33_14]; decide) (by rw [s33_14]; decide) (off := 483) (by rw [s33_14]; decide) (tgt := 516) rfl ?_
                                  refine tr_aload_n hC dL_law_516 rfl rfl ?_
                                  refine tr_aload_n hC dL_law_517 rfl rfl ?_
                                  refine tr_iload_n hC dL_law_518 rfl rfl ?_
                                  refine tr_iconst (v := 1) hC dL_law_519 (by decide) ?_
                                  refine tr_iadd hC dL_law_520 ?_
                                  obtain ⟨g21, h⟩ := h
                                  refine tr_sld hC hX dL_law_521 g21 ?_
                                  refine tr_aload_n hC dL_law_522 rfl rfl ?_
                                  refine tr_iload_n hC dL_law_523 rfl rfl ?_
                                  refine tr_iconst (v := 2) hC dL_law_524 (by decide) ?_
                                  refine tr_iadd hC dL_law_525 ?_
                                  obtain ⟨g22, h⟩ := h
                                  refine tr_sld hC hX dL_law_526 g22 ?_
                                  obtain ⟨post527, hM527, h⟩ := h
                                  refine tr_cVi (As := [.inl (xs (Int32.toNatClampNeg (v3 + 1))), .inl (xs (Int32.toNatClampNeg (v3 + 2)))]) (fr2 := 1) (lo2 := 22) hC dL_law_527 mc_L_74 mv_X10_laid sh_0 rfl ⟨Nat.le_of_ble_eq_true rfl, Nat.le_of_ble_eq_true rfl, Nat.le_of_ble_eq_true rfl⟩ rfl hM527 (fun x527 m527 hp527 => ?_)
                                  replace h := h x527 m527 hp527
                                  refine tr_aload_n hC dL_law_530 rfl rfl ?_
                                  refine tr_aload_n hC dL_law_531 rfl rfl ?_
                                  refine tr_iload_n hC dL_law_532 rfl rfl ?_
                                  refine tr_iconst (v := 1) hC dL_law_533 (by decide) ?_
                                  refine tr_iadd hC dL_law_534 ?_
                                  refine tr_sld hC hX dL_law_535 g21 ?_
                                  refine tr_aload_n hC dL_law_536 rfl rfl ?_
                                  refine tr_iload_n hC dL_law_537 rfl rfl ?_
                                  refine tr_iconst (v := 2) hC dL_law_538 (by decide) ?_
                                  refine tr_iadd hC dL_law_539 ?_
                                  refine tr_sld hC hX dL_law_540 g22 ?_
                                  obtain ⟨post541, hM541, h⟩ := h
                                  refine tr_cVi (As := [.inl (xs (Int32.toNatClampNeg (v3 + 1))), .inl (xs (Int32.toNatClampNeg (v3 + 2)))]) (fr2 := 1) (lo2 := 22) hC dL_law_541 mc_L_78 mv_X11_laid sh_187 rfl ⟨Nat.le_of_ble_eq_true rfl, Nat.le_of_ble_eq_true rfl, Nat.le_of_ble_eq_true rfl⟩ rfl hM541 (fun x541 m541 hp541 => ?_)
                                  replace h := h x541 m541 hp541
                                  refine tr_icmp_eq hC dL_law_544 (tgt := 756) rfl (fun c544 => ?_) (fun c544 => ?_)
                                  · replace h := h.1 c544
                                    refine tr_iinc (v := v3 + 6) (loc2 := [some (.inr 999), some (.inr 0), some (.inr 187), some (.inl (v3 + 6))]) hC dL_law_756 rfl rfl (by decide) rfl ?_
                                    refine tr_goto hC dL_law_759 (tgt := 18) rfl ?_
                                    exact h
                                  · replace h := h.2 c544
                                    exact h.elim
                                · replace h := h.2 s33_14
                                  by_cases s33_15 : ((xs v3.toNatClampNeg) &&& 31) = 15
                                  · replace h := h.1 s33_15
                                    refine tr_tabIn hC dL_law_33 (by rw [s33_15]; decide) (by rw [s33_15]; decide) (off := 516) (by rw [s33_15]; decide) (tgt := 549) rfl ?_
                                    refine tr_aload_n hC dL_law_549 rfl rfl ?_
                                    obtain ⟨post550, hM550, h⟩ := h
                                    refine tr_cVi (As := []) (fr2 := 6) (lo2 := 153) hC dL_law_550 mc_L_79 mv_X10_edits sh_0 rfl ⟨Nat.le_of_ble_eq_true rfl, Nat.le_of_ble_eq_true rfl, Nat.le_of_ble_eq_true rfl⟩ rfl hM550 (fun x550 m550 hp550 => ?_)
                                    replace h := h x550 m550 hp550
                                    refine tr_aload_n hC dL_law_553 rfl rfl ?_
                                    obtain ⟨post554, hM554, h⟩ := h
                                    refine tr_cVi (As := []) (fr2 := 6) (lo2 := 140) hC dL_law_554 mc_L_82 mv_X11_edits sh_187 rfl ⟨Nat.le_of_ble_eq_true rfl, Nat.le_of_ble_eq_true rfl, Nat.le_of_ble_eq_true rfl⟩ rfl hM554 (fun x554 m554 hp554 => ?_)
                                    replace h := h x554 m554 hp554
                                    refine tr_icmp_eq hC dL_law_557 (tgt := 756) rfl (fun c557 => ?_) (fun c557 => ?_)
                                    · replace h := h.1 c557
                                      refine tr_iinc (v := v3 + 6) (loc2 := [some (.inr 999), some (.inr 0), some (.inr 187), some (.inl (v3 + 6))]) hC dL_law_756 rfl rfl (by decide) rfl ?_
                                      refine tr_goto hC dL_law_759 (tgt := 18) rfl ?_
                                      exact h
                                    · replace h := h.2 c557
                                      exact h.elim
                                  · replace h := h.2 s33_15
                                    by_cases s33_16 : ((xs v3.toNatClampNeg) &&& 31) = 16
                                    · replace h := h.1 s33_16
                                      refine tr_tabIn hC dL_law_33 (by rw [s33_16]; decide) (by rw [s33_16]; decide) (off := 529) (by rw [s33_16]; decide) (tgt := 562) rfl ?_
                                      refine tr_aload_n hC dL_law_562 rfl rfl ?_
                                      obtain ⟨post563, hM563, h⟩ := h
                                      refine tr_cVi (As := []) (fr2 := 2) (lo2 := 50) hC dL_law_563 mc_L_83 mv_X10_teach sh_0 rfl ⟨Nat.le_of_ble_eq_true rfl, Nat.le_of_ble_eq_true rfl, Nat.le_of_ble_eq_true rfl⟩ rfl hM563 (fun x563 m563 hp563 => ?_)
                                      replace h := h x563 m563 hp563
                                      refine tr_aload_n hC dL_law_566 rfl rfl ?_
                                      obtain ⟨post567, hM567, h⟩ := h
                                      refine tr_cVi (As := []) (fr2 := 0) (lo2 := 0) hC dL_law_567 mc_L_86 mv_X11_teach sh_187 rfl ⟨Nat.le_of_ble_eq_true rfl, Nat.le_of_ble_eq_true rfl, Nat.le_of_ble_eq_true rfl⟩ rfl hM567 (fun x567 m567 hp567 => ?_)
                                      replace h := h x567 m567 hp567
                                      refine tr_icmp_eq hC dL_law_570 (tgt := 756) rfl (fun c570 => ?_) (fun c570 => ?_)
                                      · replace h := h.1 c570
                                        refine tr_iinc (v := v3 + 6) (loc2 := [some (.inr 999), some (.inr 0), some (.inr 187), some (.inl (v3 + 6))]) hC dL_law_756 rfl rfl (by decide) rfl ?_
                                        refine tr_goto hC dL_law_759 (tgt := 18) rfl ?_
                                        exact h
                                      · replace h := h.2 c570
                                        exact h.elim
                                    · replace h := h.2 s33_16
                                      by_cases s33_17 : ((xs v3.toNatClampNeg) &&& 31) = 17
                                      · replace h := h.1 s33_17
                                        refine tr_tabIn hC dL_law_33 (by rw [s33_17]; decide) (by rw [s33_17]; decide) (off := 542) (by rw [s33_17]; decide) (tgt := 575) rfl ?_
                                        refine tr_aload_n hC dL_law_575 rfl rfl ?_
                                        obtain ⟨post576, hM576, h⟩ := h
                                        refine tr_cVi (As := []) (fr2 := 1) (lo2 := 25) hC dL_law_576 mc_L_87 mv_X10_unteach sh_0 rfl ⟨Nat.le_of_ble_eq_true rfl, Nat.le_of_ble_eq_true rfl, Nat.le_of_ble_eq_true rfl⟩ rfl hM576 (fun x576 m576 hp576 => ?_)
                                        replace h := h x576 m576 hp576
                                        refine tr_aload_n hC dL_law_579 rfl rfl ?_
                                        obtain ⟨post580, hM580, h⟩ := h
                                        refine tr_cVi (As := []) (fr2 := 0) (lo2 := 0) hC dL_law_580 mc_L_90 mv_X11_unteach sh_187 rfl ⟨Nat.le_of_ble_eq_true rfl, Nat.le_of_ble_eq_true rfl, Nat.le_of_ble_eq_true rfl⟩ rfl hM580 (fun x580 m580 hp580 => ?_)
                                        replace h := h x580 m580 hp580
                                        refine tr_icmp_eq hC dL_law_583 (tgt := 756) rfl (fun c583 => ?_) (fun c583 => ?_)
                                        · replace h := h.1 c583
                                          refine tr_iinc (v := v3 + 6) (loc2 := [some (.inr 999), some (.inr 0), some (.inr 187), some (.inl (v3 + 6))]) hC dL_law_756 rfl rfl (by decide) rfl ?_
                                          refine tr_goto hC dL_law_759 (tgt := 18) rfl ?_
                                          exact h
                                        · replace h := h.2 c583
                                          exact h.elim
                                      · replace h := h.2 s33_17
                                        by_cases s33_18 : ((xs v3.toNatClampNeg) &&& 31) = 18
                                        · replace h := h.1 s33_18
                                          refine tr_tabIn hC dL_law_33 (by rw [s33_18]; decide) (by rw [s33_18]; decide) (off := 555) (by rw [s33_18]; decide) (tgt := 588) rfl ?_
                                          refine tr_aload_n hC dL_law_588 rfl rfl ?_
                                          refine tr_aload_n hC dL_law_589 rfl rfl ?_
                                          refine tr_iload_n hC dL_law_590 rfl rfl ?_
                                          refine tr_iconst (v := 1) hC dL_law_591 (by decide) ?_
                                          refine tr_iadd hC dL_law_592 ?_
                                          obtain ⟨g23, h⟩ := h
                                          refine tr_sld hC hX dL_law_593 g23 ?_
                                          refine tr_aload_n hC dL_law_594 rfl rfl ?_
                                          refine tr_iload_n hC dL_law_595 rfl rfl ?_
                                          refine tr_iconst (v := 2) hC dL_law_596 (by decide) ?_
                                          refine tr_iadd hC dL_law_597 ?_
                                          obtain ⟨g24, h⟩ := h
                                          refine tr_sld hC hX dL_law_598 g24 ?_
                                          obtain ⟨post599, hM599, h⟩ := h
                                          refine tr_cVi (As := [.inl (xs (Int32.toNatClampNeg (v3 + 1))), .inl (xs (Int32.toNatClampNeg (v3 + 2)))]) (fr2 := 2) (lo2 := 42) hC dL_law_599 mc_L_91 mv_X10_taught sh_0 rfl ⟨Nat.le_of_ble_eq_true rfl, Nat.le_of_ble_eq_true rfl, Nat.le_of_ble_eq_true rfl⟩ rfl hM599 (fun x599 m599 hp599 => ?_)
                                          replace h := h x599 m599 hp599
                                          refine tr_aload_n hC dL_law_602 rfl rfl ?_
                                          refine tr_aload_n hC dL_law_603 rfl rfl ?_
                                          refine tr_iload_n hC dL_law_604 rfl rfl ?_
                                          refine tr_iconst (v := 1) hC dL_law_605 (by decide) ?_
                                          refine tr_iadd hC dL_law_606 ?_
                                          refine tr_sld hC hX dL_law_607 g23 ?_
                                          refine tr_aload_n hC dL_law_608 rfl rfl ?_
                                          refine tr_iload_n hC dL_law_609 rfl rfl ?_
                                          refine tr_iconst (v := 2) hC dL_law_610 (by decide) ?_
                                          refine tr_iadd hC dL_law_611 ?_
                                          refine tr_sld hC hX dL_law_612 g24 ?_
                                          obtain ⟨post613, hM613, h⟩ := h
                                          refine tr_cVi (As := [.inl (xs (Int32.toNatClampNeg (v3 + 1))), .inl (xs (Int32.toNatClampNeg (v3 + 2)))]) (fr2 := 1) (lo2 := 22) hC dL_law_613 mc_L_94 mv_X11_taught sh_187 rfl ⟨Nat.le_of_ble_eq_true rfl, Nat.le_of_ble_eq_true rfl, Nat.le_of_ble_eq_true rfl⟩ rfl hM613 (fun x613 m613 hp613 => ?_)
                                          replace h := h x613 m613 hp613
                                          refine tr_icmp_eq hC dL_law_616 (tgt := 756) rfl (fun c616 => ?_) (fun c616 => ?_)
                                          · replace h := h.1 c616
                                            refine tr_iinc (v := v3 + 6) (loc2 := [some (.inr 999), some (.inr 0), some (.inr 187), some (.inl (v3 + 6))]) hC dL_law_756 rfl rfl (by decide) rfl ?_
                                            refine tr_goto hC dL_law_759 (tgt := 18) rfl ?_
                                            exact h
                                          · replace h := h.2 c616
                                            exact h.elim
                                        · replace h := h.2 s33_18
                                          by_cases s33_19 : ((xs v3.toNatClampNeg) &&& 31) = 19
                                          · replace h := h.1 s33_19
                                            refine tr_tabIn hC dL_law_33 (by rw [s33_19]; decide) (by rw [s33_19]; decide) (off := 588) (by rw [s33_19]; decide) (tgt := 621) rfl ?_
                                            refine tr_aload_n hC dL_law_621 rfl rfl ?_
                                            obtain ⟨post622, hM622, h⟩ := h
                                            refine tr_cVi (As := []) (fr2 := 2) (lo2 := 48) hC dL_law_622 mc_L_95 mv_X10_renew sh_0 rfl ⟨Nat.le_of_ble_eq_true rfl, Nat.le_of_ble_eq_true rfl, Nat.le_of_ble_eq_true rfl⟩ rfl hM622 (fun x622 m622 hp622 => ?_)
                                            replace h := h x622 m622 hp622
                                            refine tr_aload_n hC dL_law_625 rfl rfl ?_
                                            obtain ⟨post626, hM626, h⟩ := h
                                            refine tr_cVi (As := []) (fr2 := 0) (lo2 := 0) hC dL_law_626 mc_L_98 mv_X11_renew sh_187 rfl ⟨Nat.le_of_ble_eq_true rfl, Nat.le_of_ble_eq_true rfl, Nat.le_of_ble_eq_true rfl⟩ rfl hM626 (fun x626 m626 hp626 => ?_)
                                            replace h := h x626 m626 hp626
                                            refine tr_icmp_eq hC dL_law_629 (tgt := 756) rfl (fun c629 => ?_) (fun c629 => ?_)
                                            · replace h := h.1 c629
                                              refine tr_iinc (v := v3 + 6) (loc2 := [some (.inr 999), some (.inr 0), some (.inr 187), some (.inl (v3 + 6))]) hC dL_law_756 rfl rfl (by decide) rfl ?_
                                              refine tr_goto hC dL_law_759 (tgt := 18) rfl ?_
                                              exact h
                                            · replace h := h.2 c629
                                              exact h.elim
                                          · replace h := h.2 s33_19
                                            by_cases s33_20 : ((xs v3.toNatClampNeg) &&& 31) = 20
                                            · replace h := h.1 s33_20
                                              refine tr_tabIn hC dL_law_33 (by rw [s33_20]; decide) (by rw [s33_20]; decide) (off := 601) (by rw [s33_20]; decide) (tgt := 634) rfl ?_
                                              refine tr_aload_n hC dL_law_634 rfl rfl ?_
                                              refine tr_aload_n hC dL_law_635 rfl rfl ?_
                                              refine tr_iload_n hC dL_law_636 rfl rfl ?_
                                              refine tr_iconst (v := 1) hC dL_law_637 (by decide) ?_
                                              refine tr_iadd hC dL_law_638 ?_
                                              obtain ⟨g25, h⟩ := h
                                              refine tr_sld hC hX dL_law_639 g25 ?_
                                              refine tr_aload_n hC dL_law_640 rfl rfl ?_
                                              refine tr_iload_n hC dL_law_641 rfl rfl ?_
                                              refine tr_iconst (v := 2) hC dL_law_642 (by decide) ?_
                                              refine tr_iadd hC dL_law_643 ?_
                                              obtain ⟨g26, h⟩ := h
                                              refine tr_sld hC hX dL_law_644 g26 ?_
                                              obtain ⟨post645, hM645, h⟩ := h
                                              refine tr_cVi (As := [.inl (xs (Int32.toNatClampNeg (v3 + 1))), .inl (xs (Int32.toNatClampNeg (v3 + 2)))]) (fr2 := 4) (lo2 := 107) hC dL_law_645 mc_L_99 mv_X10_spot sh_0 rfl ⟨Nat.le_of_ble_eq_true rfl, Nat.le_of_ble_eq_true rfl, Nat.le_of_ble_eq_true rfl⟩ rfl hM645 (fun x645 m645 hp645 => ?_)
                                              replace h := h x645 m645 hp645
                                              refine tr_aload_n hC dL_law_648 rfl rfl ?_
                                              refine tr_aload_n hC dL_law_649 rfl rfl ?_
                                              refine tr_iload_n hC dL_law_650 rfl rfl ?_
                                              refine tr_iconst (v := 1) hC dL_law_651 (by decide) ?_
                                              refine tr_iadd hC dL_law_652 ?_
                                              refine tr_sld hC hX dL_law_653 g25 ?_
                                              refine tr_aload_n hC dL_law_654 rfl rfl ?_
                                              refine tr_iload_n hC dL_law_655 rfl rfl ?_
                                              refine tr_iconst (v := 2) hC dL_law_656 (by decide) ?_
                                              refine tr_iadd hC dL_law_657 ?_
                                              refine tr_sld hC hX dL_law_658 g26 ?_
                                              obtain ⟨post659, hM659, h⟩ := h
                                              refine tr_cVi (As := [.inl (xs (Int32.toNatClampNeg (v3 + 1))), .inl (xs (Int32.toNatClampNeg (v3 + 2)))]) (fr2 := 3) (lo2 := 72) hC dL_law_659 mc_L_102 mv_X11_spot sh_187 rfl ⟨Nat.le_of_ble_eq_true rfl, Nat.le_of_ble_eq_true rfl, Nat.le_of_ble_eq_true rfl⟩ rfl hM659 (fun x659 m659 hp659 => ?_)
                                              replace h := h x659 m659 hp659
                                              refine tr_icmp_eq hC dL_law_662 (tgt := 756) rfl (fun c662 => ?_) (fun c662 => ?_)
                                              · replace h := h.1 c662
                                                refine tr_iinc (v := v3 + 6) (loc2 := [some (.inr 999), some (.inr 0), some (.inr 187), some (.inl (v3 + 6))]) hC dL_law_756 rfl rfl (by decide) rfl ?_
                                                refine tr_goto hC dL_law_759 (tgt := 18) rfl ?_
                                                exact h
                                              · replace h := h.2 c662
                                                exact h.elim
                                            · replace h := h.2 s33_20
                                              by_cases s33_21 : ((xs v3.toNatClampNeg) &&& 31) = 21
                                              · replace h := h.1 s33_21
                                                refine tr_tabIn hC dL_law_33 (by rw [s33_21]; decide) (by rw [s33_21]; decide) (off := 634) (by rw [s33_21]; decide) (tgt := 667) rfl ?_
                                                refine tr_aload_n hC dL_law_667 rfl rfl ?_
                                                refine tr_aload_n hC dL_law_668 rfl rfl ?_
                                                refine tr_iload_n hC dL_law_669 rfl rfl ?_
                                                refine tr_iconst (v := 1) hC dL_law_670 (by decide) ?_
                                                refine tr_iadd hC dL_law_671 ?_
                                                obtain ⟨g27, h⟩ := h
                                                refine tr_sld hC hX dL_law_672 g27 ?_
                                                refine tr_aload_n hC dL_law_673 rfl rfl ?_
                                                refine tr_iload_n hC dL_law_674 rfl rfl ?_
                                                refine tr_iconst (v := 2) hC dL_law_675 (by decide) ?_
                                                refine tr_iadd hC dL_law_676 ?_
                                                obtain ⟨g28, h⟩ := h
                                                refine tr_sld hC hX dL_law_677 g28 ?_
                                                refine tr_aload_n hC dL_law_678 rfl rfl ?_
                                                refine tr_iload_n hC dL_law_679 rfl rfl ?_
                                                refine tr_iconst (v := 3) hC dL_law_680 (by decide) ?_
                                                refine tr_iadd hC dL_law_681 ?_
                                                obtain ⟨g29, h⟩ := h
                                                refine tr_sld hC hX dL_law_682 g29 ?_
                                                obtain ⟨post683, hM683, h⟩ := h
                                                refine tr_cVi (As := [.inl (xs (Int32.toNatClampNeg (v3 + 1))), .inl (xs (Int32.toNatClampNeg (v3 + 2))), .inl (xs (Int32.toNatClampNeg (v3 + 3)))]) (fr2 := 1) (lo2 := 23) hC dL_law_683 mc_L_103 mv_X10_ears sh_0 rfl ⟨Nat.le_of_ble_eq_true rfl, Nat.le_of_ble_eq_true rfl, Nat.le_of_ble_eq_true rfl⟩ rfl hM683 (fun x683 m683 hp683 => ?_)
                                                replace h := h x683 m683 hp683
                                                refine tr_aload_n hC dL_law_686 rfl rfl ?_
                                                refine tr_aload_n hC dL_law_687 rfl rfl ?_
                                                refine tr_iload_n hC dL_law_688 rfl rfl ?_
                                                refine tr_iconst (v := 1) hC dL_law_689 (by decide) ?_
                                                refine tr_iadd hC dL_law_690 ?_
                                                refine tr_sld hC hX dL_law_691 g27 ?_
                                                refine tr_aload_n hC dL_law_692 rfl rfl ?_
                                                refine tr_iload_n hC dL_law_693 rfl rfl ?_
                                                refine tr_iconst (v := 2) hC dL_law_694 (by decide) ?_
                                                refine tr_iadd hC dL_law_695 ?_
                                                refine tr_sld hC hX dL_law_696 g28 ?_
                                                refine tr_aload_n hC dL_law_697 rfl rfl ?_
                                                refine tr_iload_n hC dL_law_698 rfl rfl ?_
                                                refine tr_iconst (v := 3) hC dL_law_699 (by decide) ?_
                                                refine tr_iadd hC dL_law_700 ?_
                                                refine tr_sld hC hX dL_law_701 g29 ?_
                                                obtain ⟨post702, hM702, h⟩ := h
                                                refine tr_cVi (As := [.inl (xs (Int32.toNatClampNeg (v3 + 1))), .inl (xs (Int32.toNatClampNeg (v3 + 2))), .inl (xs (Int32.toNatClampNeg (v3 + 3)))]) (fr2 := 1) (lo2 := 22) hC dL_law_702 mc_L_106 mv_X11_ears sh_187 rfl ⟨Nat.le_of_ble_eq_true rfl, Nat.le_of_ble_eq_true rfl, Nat.le_of_ble_eq_true rfl⟩ rfl hM702 (fun x702 m702 hp702 => ?_)
                                                replace h := h x702 m702 hp702
                                                refine tr_icmp_eq hC dL_law_705 (tgt := 756) rfl (fun c705 => ?_) (fun c705 => ?_)
                                                · replace h := h.1 c705
                                                  refine tr_iinc (v := v3 + 6) (loc2 := [some (.inr 999), some (.inr 0), some (.inr 187), some (.inl (v3 + 6))]) hC dL_law_756 rfl rfl (by decide) rfl ?_
                                                  refine tr_goto hC dL_law_759 (tgt := 18) rfl ?_
                                                  exact h
                                                · replace h := h.2 c705
                                                  exact h.elim
                                              · replace h := h.2 s33_21
                                                by_cases s33_22 : ((xs v3.toNatClampNeg) &&& 31) = 22
                                                · replace h := h.1 s33_22
                                                  refine tr_tabIn hC dL_law_33 (by rw [s33_22]; decide) (by rw [s33_22]; decide) (off := 677) (by rw [s33_22]; decide) (tgt := 710) rfl ?_
                                                  refine tr_aload_n hC dL_law_710 rfl rfl ?_
                                                  refine tr_aload_n hC dL_law_711 rfl rfl ?_
                                                  refine tr_iload_n hC dL_law_712 rfl rfl ?_
                                                  refine tr_iconst (v := 1) hC dL_law_713 (by decide) ?_
                                                  refine tr_iadd hC dL_law_714 ?_
                                                  obtain ⟨g30, h⟩ := h
                                                  refine tr_sld hC hX dL_law_715 g30 ?_
                                                  obtain ⟨post716, hM716, h⟩ := h
                                                  refine tr_cVi (As := [.inl (xs (Int32.toNatClampNeg (v3 + 1)))]) (fr2 := 3) (lo2 := 67) hC dL_law_716 mc_L_107 mv_X10_speech sh_0 rfl ⟨Nat.le_of_ble_eq_true rfl, Nat.le_of_ble_eq_true rfl, Nat.le_of_ble_eq_true rfl⟩ rfl hM716 (fun x716 m716 hp716 => ?_)
                                                  replace h := h x716 m716 hp716
                                                  refine tr_aload_n hC dL_law_719 rfl rfl ?_
                                                  refine tr_aload_n hC dL_law_720 rfl rfl ?_
                                                  refine tr_iload_n hC dL_law_721 rfl rfl ?_
                                                  refine tr_iconst (v := 1) hC dL_law_722 (by decide) ?_
                                                  refine tr_iadd hC dL_law_723 ?_
                                                  refine tr_sld hC hX dL_law_724 g30 ?_
                                                  obtain ⟨post725, hM725, h⟩ := h
                                                  refine tr_cVi (As := [.inl (xs (Int32.toNatClampNeg (v3 + 1)))]) (fr2 := 1) (lo2 := 25) hC dL_law_725 mc_L_110 mv_X11_speech sh_187 rfl ⟨Nat.le_of_ble_eq_true rfl, Nat.le_of_ble_eq_true rfl, Nat.le_of_ble_eq_true rfl⟩ rfl hM725 (fun x725 m725 hp725 => ?_)
                                                  replace h := h x725 m725 hp725
                                                  refine tr_icmp_eq hC dL_law_728 (tgt := 756) rfl (fun c728 => ?_) (fun c728 => ?_)
                                                  · replace h := h.1 c728
                                                    refine tr_iinc (v := v3 + 6) (loc2 := [some (.inr 999), some (.inr 0), some (.inr 187), some (.inl (v3 + 6))]) hC dL_law_756 rfl rfl (by decide) rfl ?_
                                                    refine tr_goto hC dL_law_759 (tgt := 18) rfl ?_
                                                    exact h
                                                  · replace h := h.2 c728
                                                    exact h.elim
                                                · replace h := h.2 s33_22
                                                  by_cases s33_23 : ((xs v3.toNatClampNeg) &&& 31) = 23
                                                  · replace h := h.1 s33_23
                                                    refine tr_tabIn hC dL_law_33 (by rw [s33_23]; decide) (by rw [s33_23]; decide) (off := 700) (by rw [s33_23]; decide) (tgt := 733) rfl ?_
                                                    refine tr_aload_n hC dL_law_733 rfl rfl ?_
                                                    refine tr_aload_n hC dL_law_734 rfl rfl ?_
                                                    refine tr_iload_n hC dL_law_735 rfl rfl ?_
                                                    refine tr_iconst (v := 1) hC dL_law_736 (by decide) ?_
                                                    refine tr_iadd hC dL_law_737 ?_
                                                    obtain ⟨g31, h⟩ := h
                                                    refine tr_sld hC hX dL_law_738 g31 ?_
                                                    obtain ⟨post739, hM739, h⟩ := h
                                                    refine tr_cVi (As := [.inl (xs (Int32.toNatClampNeg (v3 + 1)))]) (fr2 := 1) (lo2 := 20) hC dL_law_739 mc_L_111 mv_X10_count sh_0 rfl ⟨Nat.le_of_ble_eq_true rfl, Nat.le_of_ble_eq_true rfl, Nat.le_of_ble_eq_true rfl⟩ rfl hM739 (fun x739 m739 hp739 => ?_)
                                                    replace h := h x739 m739 hp739
                                                    refine tr_aload_n hC dL_law_742 rfl rfl ?_
                                                    refine tr_aload_n hC dL_law_743 rfl rfl ?_
                                                    refine tr_iload_n hC dL_law_744 rfl rfl ?_
                                                    refine tr_iconst (v := 1) hC dL_law_745 (by decide) ?_
                                                    refine tr_iadd hC dL_law_746 ?_
                                                    refine tr_sld hC hX dL_law_747 g31 ?_
                                                    obtain ⟨post748, hM748, h⟩ := h
                                                    refine tr_cVi (As := [.inl (xs (Int32.toNatClampNeg (v3 + 1)))]) (fr2 := 0) (lo2 := 0) hC dL_law_748 mc_L_114 mv_X11_count sh_187 rfl ⟨Nat.le_of_ble_eq_true rfl, Nat.le_of_ble_eq_true rfl, Nat.le_of_ble_eq_true rfl⟩ rfl hM748 (fun x748 m748 hp748 => ?_)
                                                    replace h := h x748 m748 hp748
                                                    refine tr_icmp_eq hC dL_law_751 (tgt := 756) rfl (fun c751 => ?_) (fun c751 => ?_)
                                                    · replace h := h.1 c751
                                                      refine tr_iinc (v := v3 + 6) (loc2 := [some (.inr 999), some (.inr 0), some (.inr 187), some (.inl (v3 + 6))]) hC dL_law_756 rfl rfl (by decide) rfl ?_
                                                      refine tr_goto hC dL_law_759 (tgt := 18) rfl ?_
                                                      exact h
                                                    · replace h := h.2 c751
                                                      exact h.elim
                                                  · replace h := h.2 s33_23
                                                    refine tr_tabOut hC dL_law_33 (tgt := 756) (by have := sw_ne s33_0 (z := 0) (by decide); have := sw_ne s33_1 (z := 1) (by decide); have := sw_ne s33_2 (z := 2) (by decide); have := sw_ne s33_3 (z := 3) (by decide); have := sw_ne s33_4 (z := 4) (by decide); have := sw_ne s33_5 (z := 5) (by decide); have := sw_ne s33_6 (z := 6) (by decide); have := sw_ne s33_7 (z := 7) (by decide); have := sw_ne s33_8 (z := 8) (by decide); have := sw_ne s33_9 (z := 9) (by decide); have := sw_ne s33_10 (z := 10) (by decide); have := sw_ne s33_11 (z := 11) (by decide); have := sw_ne s33_12 (z := 12) (by decide); have := sw_ne s33_13 (z := 13) (by decide); have := sw_ne s33_14 (z := 14) (by decide); have := sw_ne s33_15 (z := 15) (by decide); have := sw_ne s33_16 (z := 16) (by decide); have := sw_ne s33_17 (z := 17) (by decide); have := sw_ne s33_18 (z := 18) (by decide); have := sw_ne s33_19 (z := 19) (by decide); have := sw_ne s33_20 (z := 20) (by decide); have := sw_ne s33_21 (z := 21) (by decide); have := sw_ne s33_22 (z := 22) (by decide); have := sw_ne s33_23 (z := 23) (by decide); omega) rfl ?_
                                                    refine tr_iinc (v := v3 + 6) (loc2 := [some (.inr 999), some (.inr 0), some (.inr 187), some (.inl (v3 + 6))]) hC dL_law_756 rfl rfl (by decide) rfl ?_
                                                    refine tr_goto hC dL_law_759 (tgt := 18) rfl ?_
                                                    exact h

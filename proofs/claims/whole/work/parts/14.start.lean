theorem nc_L_7 : NC RL 7 10 [none, none, none, none, none, none, none, none, none] 9 := ⟨RX10, TX10, tyX10, rfl, in_X10, tyX10_ok, tb_at 53 (by decide +kernel) rfl, tb_at 54 (by decide +kernel) rfl, tb_at 39 (by decide +kernel) rfl, fun b j hj => by
  have h : j = 0 ∨ j = 1 ∨ j = 2 ∨ j = 3 ∨ j = 4 ∨ j = 5 ∨ j = 6 ∨ j = 7 ∨ j = 8 := by omega
  rcases h with rfl|rfl|rfl|rfl|rfl|rfl|rfl|rfl|rfl <;> rfl⟩
theorem nc_L_10 : NC RL 10 11 [some (.inl 0), none, none, some (.inl 0), some (.inl 0), none, none, none, none, some (.inl 0), none, some (.inl 0), none, none, none, none, some (.inl 0), none, none, some (.inl 0), some (.inl 0), some (.inl 0), none, none, none, none, some (.inl 0), none, none, none, none, none] 32 := ⟨RX11, TX11, tyX11, rfl, in_X11, tyX11_ok, tb_at 739 (by decide +kernel) rfl, tb_at 740 (by decide +kernel) rfl, tb_at 52 (by decide +kernel) rfl, fun b j hj => by
  have h : j = 0 ∨ j = 1 ∨ j = 2 ∨ j = 3 ∨ j = 4 ∨ j = 5 ∨ j = 6 ∨ j = 7 ∨ j = 8 ∨ j = 9 ∨ j = 10 ∨ j = 11 ∨ j = 12 ∨ j = 13 ∨ j = 14 ∨ j = 15 ∨ j = 16 ∨ j = 17 ∨ j = 18 ∨ j = 19 ∨ j = 20 ∨ j = 21 ∨ j = 22 ∨ j = 23 ∨ j = 24 ∨ j = 25 ∨ j = 26 ∨ j = 27 ∨ j = 28 ∨ j = 29 ∨ j = 30 ∨ j = 31 := by omega
  rcases h with rfl|rfl|rfl|rfl|rfl|rfl|rfl|rfl|rfl|rfl|rfl|rfl|rfl|rfl|rfl|rfl|rfl|rfl|rfl|rfl|rfl|rfl|rfl|rfl|rfl|rfl|rfl|rfl|rfl|rfl|rfl|rfl <;> rfl⟩
theorem nests_in : ∀ q ∈ nests, Cond.methodLinkNest q.1 q.2.1 q.2.2.1 q.2.2.2 ∈ lw_tbl := by
  intro q hq
  simp only [nests, List.mem_cons, List.not_mem_nil, or_false] at hq
  rcases hq with rfl | rfl | rfl | rfl | rfl | rfl | rfl | rfl | rfl
  · exact List.mem_of_getElem? (i := 88) (by decide +kernel)
  · exact List.mem_of_getElem? (i := 111) (by decide +kernel)
  · exact List.mem_of_getElem? (i := 118) (by decide +kernel)
  · exact List.mem_of_getElem? (i := 175) (by decide +kernel)
  · exact List.mem_of_getElem? (i := 201) (by decide +kernel)
  · exact List.mem_of_getElem? (i := 211) (by decide +kernel)
  · exact List.mem_of_getElem? (i := 231) (by decide +kernel)
  · exact List.mem_of_getElem? (i := 236) (by decide +kernel)
  · exact List.mem_of_getElem? (i := 252) (by decide +kernel)
theorem over_in : Cond.arrayOver (.array .int) ∈ lw_tbl := List.mem_of_getElem? (i := 68) (by decide +kernel)
theorem kinds_known {s : State} {args : Array Value} (htw : ∀ w ∈ tw_tbl, w.before args s = true) (hAO : (Cond.arrayOver (.array .int)).before args s = true) : ∃ (D : va_G) (cI cR : ClassId), va_K D vwCl [(cI, .int), (cR, .array .int)] s := by
  obtain ⟨c0, i0, h0⟩ := u_known (C := RX0) (T := TX0) (N := 3) (n := 3) htw in_X0 (htw (.instantiable RX0 3) (tb_at 251 (by decide +kernel) rfl))
  obtain ⟨c1, i1, h1⟩ := u_known (C := RX1) (T := TX1) (N := 1) (n := 1) htw in_X1 (htw (.instantiable RX1 1) (tb_at 200 (by decide +kernel) rfl))
  obtain ⟨c2, i2, h2⟩ := u_known (C := RX2) (T := TX2) (N := 4) (n := 4) htw in_X2 (htw (.instantiable RX2 4) (tb_at 62 (by decide +kernel) rfl))
  obtain ⟨c3, i3, h3⟩ := u_known (C := RX3) (T := TX3) (N := 6) (n := 6) htw in_X3 (htw (.instantiable RX3 6) (tb_at 174 (by decide +kernel) rfl))
  obtain ⟨c4, i4, h4⟩ := u_known (C := RX4) (T := TX4) (N := 4) (n := 4) htw in_X4 (htw (.instantiable RX4 4) (tb_at 210 (by decide +kernel) rfl))
  obtain ⟨c5, i5, h5⟩ := u_known (C := RX5) (T := TX5) (N := 5) (n := 5) htw in_X5 (htw (.instantiable RX5 5) (tb_at 87 (by decide +kernel) rfl))
  obtain ⟨c6, i6, h6⟩ := u_known (C := RX6) (T := TX6) (N := 7) (n := 7) htw in_X6 (htw (.instantiable RX6 7) (tb_at 110 (by decide +kernel) rfl))
  obtain ⟨c7, i7, h7⟩ := u_known (C := RX7) (T := TX7) (N := 2) (n := 2) htw in_X7 (htw (.instantiable RX7 2) (tb_at 133 (by decide +kernel) rfl))
  obtain ⟨c8, i8, h8⟩ := u_known (C := RX8) (T := TX8) (N := 3) (n := 3) htw in_X8 (htw (.instantiable RX8 3) (tb_at 117 (by decide +kernel) rfl))
  obtain ⟨c9, i9, h9⟩ := u_known (C := RX9) (T := TX9) (N := 4) (n := 4) htw in_X9 (htw (.instantiable RX9 4) (tb_at 230 (by decide +kernel) rfl))
  obtain ⟨c10, i10, h10⟩ := u_known (C := RX10) (T := TX10) (N := 9) (n := 9) htw in_X10 (htw (.instantiable RX10 9) (tb_at 54 (by decide +kernel) rfl))
  obtain ⟨c11, i11, h11⟩ := u_known (C := RX11) (T := TX11) (N := 32) (n := 32) htw in_X11 (htw (.instantiable RX11 32) (tb_at 740 (by decide +kernel) rfl))
  obtain ⟨cI, kI, compI, f1, f2, f3⟩ := Cond.arrayClass_spec (htw _ w_ac)
  obtain ⟨compR, cR, kR, g1, g2, g3, g4, g5⟩ := arrayOver_specB hAO
  refine ⟨((fun n => match n with | 0 => c0 | 1 => c1 | 2 => c2 | 3 => c3 | 4 => c4 | 5 => c5 | 6 => c6 | 7 => c7 | 8 => c8 | 9 => c9 | 10 => c10 | _ => c11), (fun n => match n with | 0 => i0 | 1 => i1 | 2 => i2 | 3 => i3 | 4 => i4 | 5 => i5 | 6 => i6 | 7 => i7 | 8 => i8 | 9 => i9 | 10 => i10 | _ => i11)), cI, cR, ⟨fun c q hq => ?_, fun k q hk => ?_⟩⟩
  · have hl : c < 12 := (List.getElem?_eq_some_iff.mp hq).1
    have hcs : c = 0 ∨ c = 1 ∨ c = 2 ∨ c = 3 ∨ c = 4 ∨ c = 5 ∨ c = 6 ∨ c = 7 ∨ c = 8 ∨ c = 9 ∨ c = 10 ∨ c = 11 := by omega
    rcases hcs with rfl | rfl | rfl | rfl | rfl | rfl | rfl | rfl | rfl | rfl | rfl | rfl
    · cases hq; exact h0
    · cases hq; exact h1
    · cases hq; exact h2
    · cases hq; exact h3
    · cases hq; exact h4
    · cases hq; exact h5
    · cases hq; exact h6
    · cases hq; exact h7
    · cases hq; exact h8
    · cases hq; exact h9
    · cases hq; exact h10
    · cases hq; exact h11
  · have hl : k < 2 := (List.getElem?_eq_some_iff.mp hk).1
    have hcs : k = 0 ∨ k = 1 := by omega
    rcases hcs with rfl | rfl
    · cases hk; exact ⟨fun n z => ⟨fun k h => (by cases h), kI, f2, compI, f3⟩, f1⟩
    · cases hk; exact ⟨fun n z => ⟨fun k h => (by cases h), kR, g3, compR, g4⟩, g5⟩
set_option maxRecDepth 100000 in
set_option maxHeartbeats 4000000 in
theorem whole_open {p : Program} {e : Env} {s : State} {m : MethodId} {below : List Frame} {meth : Method} {c : Code} (l : Launch) {b L : Nat} {xs : Nat → Int32} (hL : L ≤ 3072) (C0 : lw_At p s m meth c b L xs) (INV : Nat → TMem → Prop) (h0 : INV 0 mem0) (hops : ∀ k mem, k < 512 → INV k mem → OPS l (INV (k + 1)) mem) (hm : ∀ mem k, INV k mem → INV (k + 1) mem) : W p l e room_1 s m #[Value.ref b] below meth c s.heap [] 0 0 (lw_Z below #[Value.ref b] s) (entryFrame m ([Value.ref b] : List Value).toArray 4) := by
  obtain ⟨hx, hb, hr, hml, hown, hts, hX, hbl, hlocks, hgv⟩ := C0
  have htw : ∀ w ∈ tw_tbl, w.before #[Value.ref b] s = true := fun w h => hts w (List.mem_filter.mp h).1
  have hAO := hts _ over_in
  have hNS : ∀ q ∈ nests, va_Nw (.methodLinkNest q.1 q.2.1 q.2.2.1 q.2.2.2) s := fun q hq => va_Nw.of rfl (hts _ (nests_in q hq))
  obtain ⟨D, cI, cR, hK⟩ := kinds_known htw hAO
  obtain ⟨κ, hκ⟩ : ∃ κ : CX, κ = ((p, l, e, room_1, s, m, #[Value.ref b], below, meth, c), (D, s.heap.size, cI, cR, [(0, Value.ref b)]), lw_Z below #[Value.ref b] s) := ⟨_, rfl⟩
  have hC : CT κ RL cL_law 4 9 352 600000 7302250 nests := by
    rw [hκ]
    exact ⟨hx, hb, hml, hown, htw, hK, ⟨Nat.le_refl _, Nat.le_refl _⟩, ⟨Nat.le_refl _, Nat.le_refl _⟩, hAO, hNS, Nat.le_refl _, fun q hq => by rw [List.mem_singleton.mp hq]; exact ⟨rfl, rfl⟩⟩
  have hl : κ.1.2.1 = l := by rw [hκ]
  have key : WC κ 18 [none, some (.inr 0), some (.inr 187), some (.inl (nI (6 * 0)))] [] csQ_14 (0 + 1 + 186 + 1 + 22) (0 + 9 + 6041 + 32 + 19511) := by
    rw [hκ]
    intro H locs ls hP hS hlv
    have hρ : ∀ q, q < 900 → (fun o => if o = 999 then b else s.heap.size + o) q = s.heap.size + q := fun q hq => if_neg (by omega)
    refine law_loop (κ := ((p, l, e, room_1, s, m, #[Value.ref b], below, meth, c), (D, (fun o => if o = 999 then b else s.heap.size + o), cI, cR, fun q => s.heap.size ≤ q), (0 + 1 + 186 + 1 + 22, 0 + 9 + 6041 + 32 + 19511, lw_Z below #[Value.ref b] s))) (L := L) (xs := xs) ⟨hx, hb, hml, hown, htw, hK, conv_D hρ, ⟨Nat.le_refl _, Nat.le_refl _⟩, ⟨by decide, by decide⟩⟩ ⟨hX, hbl, Nat.not_le.mpr hbl, hr, hlocks, rfl, rfl, rfl, by decide, by decide, fun q h => h⟩ hL INV hops hm 513 0 mem0 rfl h0 H locs ls (conv_P hρ hP) hS ?_
    exact hlv

  have start : WC κ 0 [none, none, none, none] [] [] 0 0 := by
    refine tc_new (n := 0) hC dL_law_0 nc_L_7 ⟨Nat.le_of_ble_eq_true rfl, Nat.le_of_ble_eq_true rfl⟩ rfl ?_
    refine tc_dup hC dL_law_3 ?_
    refine tc_init (As := []) (fr2 := 3) (lo2 := 62) (mc2 := 186) (ms2 := 6041) hC dL_law_4 ⟨rfl, rfl⟩ iw_X10_init iv_X10_init (Or.inl (tb_at 55 (by decide +kernel) rfl)) ⟨Nat.le_of_ble_eq_true rfl, Nat.le_of_ble_eq_true rfl, Nat.le_of_ble_eq_true rfl⟩ ⟨Nat.le_of_ble_eq_true rfl, Nat.le_of_ble_eq_true rfl⟩ rfl (CI_1 _) ?_
    refine tc_astore_n (loc2 := [none, some (.inr 0), none, none]) hC dL_law_7 rfl (by decide) rfl ?_
    refine tc_new (n := 187) hC dL_law_8 nc_L_10 ⟨Nat.le_of_ble_eq_true rfl, Nat.le_of_ble_eq_true rfl⟩ (by decide +kernel) ?_
    refine tc_dup hC dL_law_11 ?_
    refine tc_init (As := []) (fr2 := 1) (lo2 := 20) (mc2 := 22) (ms2 := 19511) hC dL_law_12 ⟨rfl, rfl⟩ iw_X11_init iv_X11_init (Or.inl (tb_at 741 (by decide +kernel) rfl)) ⟨Nat.le_of_ble_eq_true rfl, Nat.le_of_ble_eq_true rfl, Nat.le_of_ble_eq_true rfl⟩ ⟨Nat.le_of_ble_eq_true rfl, Nat.le_of_ble_eq_true rfl⟩ rfl (CI_14 _) ?_
    refine tc_astore_n (loc2 := [none, some (.inr 0), some (.inr 187), none]) hC dL_law_15 rfl (by decide) rfl ?_
    refine tc_const (v := nI (6 * 0)) hC dL_law_16 (Or.inl ⟨_, rfl, rfl, by decide⟩) ?_
    refine tc_istore_n (loc2 := [none, some (.inr 0), some (.inr 187), some (.inl (nI (6 * 0)))]) hC dL_law_17 rfl (by decide) rfl ?_
    exact key
  rw [lg_entry_eq]
  rw [hκ] at start
  refine start s.heap [] _ ⟨rfl, fun k q hk => ?_⟩ va_S.rf ?_
  · have : ([] : va_W)[k]? = some q := hk
    simp at this
  · rw [hml]
    exact lv_entry [Value.ref b] (n := 4) (Nat.le_of_ble_eq_true rfl)

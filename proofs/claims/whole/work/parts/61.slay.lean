/-! LAY's simulation -/
set_option maxRecDepth 100000 in
theorem S_lay (l : Launch) (k : Nat) (mem : TMem) (h : INV k mem) : SIM l i_X10_lay 4 99 i_X11_lay 5 125 [] (INV (k + 1)) mem := by
  have hM := INV_DM h
  have hX := INV_DX h
  obtain ⟨n, W, T, a1, a2, a3, a4, a5, a6, a7, a8, a9, b1, b2, b3⟩ := id h
  have eN : dn (dat mem) = n := (nI_eq (by have := hX.n40; omega) (by have := a1.1; omega)).mp (by rw [← hX.fr]; exact a1.2.1)
  have eW : dW (dat mem) = W := (nI_eq (by have := hX.w8; omega) (by have := a5.1; omega)).mp (by rw [← hX.wd]; exact a5.2.1)
  obtain ⟨q1, q2, q3, q4⟩ := id a8
  have hw8 := a5.1
  have htt : ∀ i, i < T → mem 107 i = nI ((fun i => (mem 107 i).toNatClampNeg) i) ∧ mem 194 i = nI ((fun i => (mem 107 i).toNatClampNeg) i) ∧ (fun i => (mem 107 i).toNatClampNeg) i < W := fun i hi => by
    obtain ⟨w, w1, w2, w3⟩ := q4 i hi
    dsimp only
    rw [w2, w3, nI_clamp (by omega)]
    exact ⟨rfl, rfl, w1⟩
  generalize (fun i => (mem 107 i).toNatClampNeg) = t at htt
  have htX : TOX mem (dat mem) t T := ⟨q1, q2, fun i hi => ⟨(htt i hi).1, by rw [eW]; exact (htt i hi).2.2⟩⟩
  have htM : TOM mem (dat mem) t T := ⟨q1, q3, fun i hi => ⟨(htt i hi).2.1, by rw [eW]; exact (htt i hi).2.2⟩⟩
  have ht : ∀ i, i < T → t i < dW (dat mem) := fun i hi => by rw [eW]; exact (htt i hi).2.2
  have hLf : LYc (dat mem) t T ≤ 2000000 := by
    unfold LYc
    split
    · omega
    · have h0 := ht 0 (by omega)
      have := (hX.jo 0 (t 0 + 1) (by omega) (by have := hX.w8; omega)).2.2
      have := BW_far (d := dat mem) (t := t) (T := T) (dn (dat mem)) 0
      omega
  have cX : TMi l i_X10_lay 4 99 [.inr 0] mem (fun x m => x = LYa (dat mem) t T ∧ LYX (dat mem) t T mem m) := by
    refine tw_met (by decide) (Nat.le_of_ble_eq_true rfl) (fun κ hl hC hT => ?_)
    refine K_X10_lay_0 hC hT mem ⟨_, C_find3 _ hX hM htX, ?_⟩
    rintro x m ⟨rfl, g⟩
    rw [show (1000000 : Int32) = nI 1000000 from rfl, nI_leI (by omega) (by omega)]
    unfold LYa
    exact ⟨fun z => ⟨_, rfl, by rw [if_neg (by omega)], g⟩, fun z => ⟨_, rfl, by rw [if_pos (by omega)], g⟩⟩
  refine ⟨_, cX, ?_⟩
  rintro x m1 ⟨rfl, g1, g2⟩
  have hM1 : DM m1 (dat mem) := hM.of (g2 187 0 (by omega)) (g2 187 3 (by omega)) (g2 187 4 (by omega)) (fun o z1 z2 => funext fun j => g2 o j (by omega))
  have htM1 : TOM m1 (dat mem) t T := ⟨q1, by rw [g2 187 9 (by omega)]; exact q3, fun i hi => by rw [g2 194 i (by omega)]; exact htM.2.2 i hi⟩
  refine ⟨_, C_layM l hM1 htM1, ?_⟩
  rintro y m2 ⟨rfl, r1, r2⟩
  refine ⟨rfl, ?_⟩
  have e : ∀ o j, (o < 108 ∨ (154 ≤ o ∧ o < 187) ∨ (188 ≤ o ∧ o < 195) ∨ (198 ≤ o ∧ o < 208) ∨ (o = 187 ∧ ¬ j = 11)) → m2 o j = mem o j := fun o j z => by
    rw [r2 o j (by omega) (by omega) (by omega), g2 o j (by omega)]
  have f : ∀ o, (o < 108 ∨ (154 ≤ o ∧ o < 187) ∨ (188 ≤ o ∧ o < 195) ∨ (198 ≤ o ∧ o < 208)) → m2 o = mem o := fun o z => funext fun j => e o j (by omega)
  refine ⟨n, W, T, a1.of (e 1 2 (by omega)) (e 187 0 (by omega)), a2.of (f 2 (by omega)) (f 188 (by omega)), a3.of (f 189 (by omega)) (fun s hs => f (4 + s) (by omega)), a4.of (e 1 3 (by omega)) (e 187 3 (by omega)), a5.of (e 10 4 (by omega)) (e 187 4 (by omega)), R_wy.of a5.1 a6 (f 29 (by omega)) (f 190 (by omega)) (f 28 (by omega)) (f 191 (by omega)) (f 192 (by omega)) (fun s hs => f (12 + s) (by omega)), a7.of (f 193 (by omega)) (fun s hs => f (31 + s) (by omega)), a8.of (e 106 1 (by omega)) (e 187 9 (by omega)) (f 107 (by omega)) (f 194 (by omega)), ?_, (b1.of (e 156 3 (by omega)) (e 187 16 (by omega)) (e 156 2 (by omega)) (f 199 (by omega)) (f 200 (by omega)) (f 198 (by omega)) (fun s hs => f (158 + s) (by omega)) (fun s hs => f (165 + s) (by omega))).up (by omega), b2.of (f 186 (by omega)) (e 187 19 (by omega)) (e 187 20 (by omega)) (e 187 21 (by omega)), b3.of (dat_sc (fun o z => f o (by omega))) (e 40 6 (by omega)) (e 40 5 (by omega)) (e 104 1 (by omega)) (f 105 (by omega)) (f 42 (by omega))⟩
  have hx5 : m2 108 5 = m1 108 5 := r2 108 5 (by omega) (by omega) (by omega)
  rcases g1 with ⟨z1, z2⟩ | ⟨z1, z2, z3, z4⟩
  · rcases r1 with ⟨y1, y2⟩ | ⟨y1, y2, y3⟩
    · exact Or.inl ⟨by rw [hx5]; exact z2, y2⟩
    · omega
  · rcases r1 with ⟨y1, y2⟩ | ⟨y1, y2, y3⟩
    · omega
    · refine Or.inr ⟨by rw [hx5]; exact z2, y2, fun g hg => ?_⟩
      have hT0 : 0 < T := by
        rcases Nat.eq_zero_or_pos T with z | z
        · rw [show LYc (dat mem) t T = 1000000 from if_pos (Or.inl z)] at z1
          omega
        · exact z
      have hqv := QV_PT hM ht hT0 g (by omega)
      obtain ⟨p1, p2, p3⟩ := y3 g (by omega)
      have p4 := z4 g (by omega)
      generalize PT (dat mem) t T g = q at *
      obtain ⟨kk, v, s⟩ := q
      obtain ⟨v1, v2, v3⟩ := hqv
      dsimp only at v1 v2 v3 p1 p2 p3
      have hwy := hX.wy (t kk) (ht kk v1)
      have hln := hX.ln (t kk) v (ht kk v1) v2
      have hy := (hX.sd (t kk) v s (ht kk v1) v2 v3).1
      refine ⟨8 * kk + 4 * v + s, dsd (dat mem) (t kk) v s, by omega, hy, by rw [r2 153 g (by omega) (by omega) (by omega)]; exact p4, ?_, p1, ?_, ?_⟩
      · rw [r2 109 _ (by omega) (by omega) (by omega), z3.1 kk v s v1 (by omega) (by omega)]
        exact if_pos ⟨v2, v3⟩
      · rw [p2, show (8 * kk + 4 * v + s) / 8 = kk by omega]
      · rw [p3, show (8 * kk + 4 * v + s) % 8 / 4 = v by omega]

theorem S_teach (l : Launch) (k : Nat) (mem : TMem) (h : INV k mem) : SIM l i_X10_teach 2 50 i_X11_teach 0 0 [] (INV (k + 1)) mem := by
  obtain ⟨n, W, T, a1, a2, a3, a4, a5, a6, a7, a8, a9, b1, b2, b3⟩ := id h
  obtain ⟨hn, en1, en2⟩ := id a1
  have hl2 := a9.two
  rcases id a9 with ⟨s1, s2⟩ | ⟨s1, s2, s3⟩
  · have cX : TMi l i_X10_teach 2 50 [.inr 0] mem (fun x m => x = -3 ∧ m = mem) := by
      refine tw_met (by decide) (Nat.le_of_ble_eq_true rfl) (fun κ hl hC hT => ?_)
      exact K_X10_teach_0 hC hT mem ⟨hl2.2, fun _ => ⟨_, rfl, rfl, rfl⟩, fun q => absurd s1 q⟩
    have cM : TMi l i_X11_teach 0 0 [.inr 187] mem (fun x m => x = -3 ∧ m = mem) := by
      refine tw_met (by decide) (Nat.le_of_ble_eq_true rfl) (fun κ hl hC hT => ?_)
      exact K_X11_teach_0 hC hT mem ⟨fun _ => ⟨_, rfl, rfl, rfl⟩, fun q => absurd s2 q⟩
    refine ⟨_, cX, ?_⟩
    rintro x m ⟨rfl, rfl⟩
    refine ⟨_, cM, ?_⟩
    rintro y m2 ⟨rfl, rfl⟩
    exact ⟨rfl, INV_up _ _ h⟩
  have n1 : ¬ mem 108 5 = 0 := by rw [s1]; decide
  have n2 : ¬ mem 187 11 = 0 := by rw [s2]; decide
  obtain ⟨K, nx, many, base, q1, q2, q3, q4, q5, q6, q7, q8⟩ := id b1
  obtain ⟨at_, hat0⟩ : ∃ at_ : Nat → Option Nat, ∀ f, at_ f = if mem 2 f = -1 then none else some (8 * (mem 195 f).toNatClampNeg + (mem 2 f).toNatClampNeg) := ⟨_, fun _ => rfl⟩
  have hat : ∀ f, f < n → (at_ f = none ∧ mem 2 f = -1) ∨ ∃ sl s j, sl < 96 ∧ s < 6 ∧ j < 8 ∧ at_ f = some (8 * s + j) ∧ mem 2 f = nI j ∧ mem 153 f = nI sl ∧ mem 109 sl = nI s ∧ mem 195 f = nI s := by
    intro f hf
    rcases (a2 f hf).2 with z | ⟨j, hj, z⟩
    · exact Or.inl ⟨by rw [hat0, if_pos z], z⟩
    · obtain ⟨sl, s, u1, u2, u3, u4, u5, u6, u7⟩ := s3 f hf
      refine Or.inr ⟨sl, s, j, u1, u2, hj, ?_, z, u3, u4, u5⟩
      have ne : ¬ mem 2 f = -1 := fun q => by
        rw [z] at q
        have := congrArg Int32.toInt q
        rw [nI_toInt (by omega)] at this
        have e : (-1 : Int32).toInt = -1 := by decide
        omega
      rw [hat0, if_neg ne, u5, z, nI_clamp (by omega), nI_clamp (by omega)]
  have hlt48 : ∀ c ∈ cl at_ n, c < 48 := cl_lt (n := n) (fun f c hf hc => by
    rcases hat f hf with ⟨z, -⟩ | ⟨sl, s, j, u1, u2, u3, u4, -⟩
    · rw [z] at hc; cases hc
    · rw [u4] at hc; cases hc; omega) n (Nat.le_refl _)
  have hlen := cl_len at_ n
  generalize hNe : (fun c => base c + sm (fun i => hc (fun q => mem 200 (40 * i + q)) (nI c) (many i)) K) = N
  have hN : ∀ s j, s < 6 → j < 8 → mem (158 + s) j = nI (N (8 * s + j)) := fun s j hs hj => by rw [(q7 s j hs hj).2, ← hNe]
  have hNM : ∀ c, c < 48 → mem 198 c = nI (N c) := fun c hc1 => by
    have h1 := (q7 (c / 8) (c % 8) (by omega) (by omega)).1
    rw [Nat.div_add_mod] at h1
    rw [h1, hN (c / 8) (c % 8) (by omega) (by omega), Nat.div_add_mod]
  have hB : ∀ s, s < 6 → sm (fun j => N (8 * s + j)) 8 ≤ 40 * k := fun s hs => by rw [← hNe]; exact q8 s hs
  have cX : TMi l i_X10_teach 2 50 [.inr 0] mem (fun x m => x = nI (cl at_ n).length ∧ ∃ m3, LRN N at_ nx mem n m3 ∧ m = mset (mset m3 156 2 (nI ((nx + 1) % 16))) 156 3 (nI (min (K + 1) 16))) := by
    refine tw_met (by decide) (Nat.le_of_ble_eq_true rfl) (fun κ hl hC hT => ?_)
    refine K_X10_teach_0 hC hT mem ⟨hl2.2, fun q => absurd q n1, fun _ => ⟨_, C_learn _ (N := N) (at_ := at_) hn q1 q2 en1 q3 q5 hN (fun f hf => by
      rcases hat f hf with z | ⟨sl, s, j, u1, u2, u3, u4, u5, u6, u7, -⟩
      · exact Or.inl z
      · exact Or.inr ⟨sl, s, j, u1, u2, u3, u4, u5, u6, u7⟩), ?_⟩⟩
    rintro x m hx
    exact ⟨_, rfl, hx⟩
  refine ⟨_, cX, ?_⟩
  rintro x m1 ⟨rfl, m3, hm3, hm1⟩
  have h1o : ∀ o j, (o < 158 ∨ 164 ≤ o) → ¬ o = 165 + nx → ¬ o = 156 → m1 o j = mem o j := fun o j z1 z2 z3 => by rw [hm1, ms_ne z3, ms_ne z3]; exact hm3.2.2 o j z1 z2
  have hatM : ∀ f, f < n → (at_ f = none ∧ m1 188 f = -1) ∨ ∃ s j, s < 6 ∧ j < 8 ∧ at_ f = some (8 * s + j) ∧ m1 188 f = nI j ∧ m1 195 f = nI s := fun f hf => by
    rw [h1o 188 f (by omega) (by omega) (by omega), h1o 195 f (by omega) (by omega) (by omega), (a2 f hf).1]
    rcases hat f hf with z | ⟨sl, s, j, u1, u2, u3, u4, u5, u6, u7, u8⟩
    · exact Or.inl z
    · exact Or.inr ⟨s, j, u2, u3, u4, u5, u8⟩
  have r11 : m1 187 11 = mem 187 11 := h1o 187 11 (by omega) (by omega) (by omega)
  have r16 : m1 187 16 = nI K := by rw [h1o 187 16 (by omega) (by omega) (by omega)]; exact q4
  have r0 : m1 187 0 = nI n := by rw [h1o 187 0 (by omega) (by omega) (by omega)]; exact en2
  have hN1 : ∀ c, c < 48 → m1 198 c = nI (N c) := fun c hc1 => by rw [h1o 198 c (by omega) (by omega) (by omega)]; exact hNM c hc1
  have cM : TMi l i_X11_teach 0 0 [.inr 187] m1 (fun x m => x = nI (cl at_ n).length ∧ ∃ ms K2 m4, ((K < 16 ∧ K2 = K ∧ ms = m1) ∨ (K = 16 ∧ K2 = 15 ∧ ∃ m0, SHF m1 16 0 m0 ∧ ms = mset m0 187 16 (nI 15))) ∧ TCH N at_ K2 ms n m4 ∧ m = mset (mset m4 199 K2 (nI (cl at_ n).length)) 187 16 (nI (K2 + 1))) := by
    refine tw_met (by decide) (Nat.le_of_ble_eq_true rfl) (fun κ hl hC hT => ?_)
    refine K_X11_teach_0 hC hT m1 ⟨fun q => absurd (by rw [r11] at q; exact q) n2, fun _ => ⟨fun q => ?_, fun q => ?_⟩⟩
    · rw [r16] at q
      have hK16 : K = 16 := (nI_eq (b := 16) (by omega) (by omega)).mp q
      refine Shf_loop hC hT (mem := m1) (fun m0 h0 => ?_) 15 1 m1 (by omega) (by omega) ⟨fun t _ => by rw [if_neg (by omega)], fun t u _ _ => by rw [if_neg (by omega)], fun _ _ _ _ => rfl⟩
      have e15 : m0 187 16 - 1 = nI 15 := by rw [h0.2.2 187 16 (by omega) (by omega), r16, hK16]; decide
      rw [e15]
      have hms : ∀ o j, ¬ o = 187 → ¬ o = 199 → ¬ o = 200 → (mset m0 187 16 (nI 15)) o j = m1 o j := fun o j z1 z2 z3 => by rw [ms_ne z1]; exact h0.2.2 o j z2 z3
      refine Tch_loop hC hT (ms := mset m0 187 16 (nI 15)) (N := N) (at_ := at_) (n := n) (K := 15) hn (by omega) (by rw [ms_sl (by omega), h0.2.2 187 0 (by omega) (by omega)]; exact r0) ms_eq (fun f hf => by
        rw [hms 188 f (by omega) (by omega) (by omega), hms 195 f (by omega) (by omega) (by omega)]; exact hatM f hf) (fun m hm => ⟨_, rfl, rfl, _, 15, m, Or.inr ⟨hK16, rfl, m0, h0, rfl⟩, hm, rfl⟩) n 0 _ (by omega) ⟨fun c hc1 => by rw [hms 198 c (by omega) (by omega) (by omega)]; exact hN1 c hc1, fun q hq => absurd hq (Nat.not_lt_zero q), fun _ _ => rfl, fun _ _ _ _ => rfl⟩
    · rw [r16] at q
      have hK16 : K < 16 := by
        rcases Nat.lt_or_ge K 16 with z | z
        · exact z
        · exact absurd (by rw [show K = 16 by omega]; rfl) q
      exact Tch_loop hC hT (ms := m1) (N := N) (at_ := at_) (n := n) (K := K) hn (by omega) r0 r16 hatM (fun m hm => ⟨_, rfl, rfl, m1, K, m, Or.inl ⟨hK16, rfl, rfl⟩, hm, rfl⟩) n 0 _ (by omega) ⟨fun c hc1 => hN1 c hc1, fun q hq => absurd hq (Nat.not_lt_zero q), fun _ _ => rfl, fun _ _ _ _ => rfl⟩
  refine ⟨_, cM, ?_⟩
  rintro y m2 ⟨rfl, ms, K2, m4, hcase, hm4, hm2⟩
  have hK2 : K2 ≤ 15 ∧ min (K + 1) 16 = K2 + 1 := by
    rcases hcase with ⟨z1, z2, -⟩ | ⟨z1, z2, -⟩ <;> omega
  have hmso : ∀ o j, ¬ o = 187 → ¬ o = 199 → ¬ o = 200 → ms o j = m1 o j := fun o j z1 z2 z3 => by
    rcases hcase with ⟨-, -, rfl⟩ | ⟨-, -, m0, h0, rfl⟩
    · rfl
    · rw [ms_ne z1]; exact h0.2.2 o j z2 z3
  have hms7 : ∀ j, ¬ j = 16 → ms 187 j = m1 187 j := fun j z => by
    rcases hcase with ⟨-, -, rfl⟩ | ⟨-, -, m0, h0, rfl⟩
    · rfl
    · rw [ms_sl z]; exact h0.2.2 187 j (by omega) (by omega)
  have h2o : ∀ o j, (o < 158 ∨ 164 ≤ o) → ¬ o = 165 + nx → ¬ o = 156 → ¬ o = 187 → ¬ o = 198 → ¬ o = 199 → ¬ o = 200 → m2 o j = mem o j := fun o j z1 z2 z3 z4 z5 z6 z7 => by rw [hm2, ms_ne z4, ms_ne z6, hm4.2.2.2 o j z5 z7, hmso o j z4 z6 z7, h1o o j z1 z2 z3]
  have go : ∀ o, (o < 158 ∨ 164 ≤ o) → ¬ o = 165 + nx → ¬ o = 156 → ¬ o = 187 → ¬ o = 198 → ¬ o = 199 → ¬ o = 200 → m2 o = mem o := fun o z1 z2 z3 z4 z5 z6 z7 => funext fun j => h2o o j z1 z2 z3 z4 z5 z6 z7
  have f7 : ∀ j, ¬ j = 16 → m2 187 j = mem 187 j := fun j z => by rw [hm2, ms_sl z, ms_ne (by omega), hm4.2.2.2 187 j (by omega) (by omega), hms7 j z, h1o 187 j (by omega) (by omega) (by omega)]
  have gm1 : ∀ o j, ¬ o = 187 → ¬ o = 198 → ¬ o = 199 → ¬ o = 200 → m2 o j = m1 o j := fun o j z4 z5 z6 z7 => by rw [hm2, ms_ne z4, ms_ne z6, hm4.2.2.2 o j z5 z7, hmso o j z4 z6 z7]
  refine ⟨rfl, n, W, T, ?_, ?_, ?_, ?_, ?_, ?_, ?_, ?_, ?_, ?_, ?_, ?_⟩
  · exact a1.of (h2o 1 2 (by omega) (by omega) (by omega) (by omega) (by omega) (by omega) (by omega)) (f7 0 (by omega))
  · exact a2.of (go 2 (by omega) (by omega) (by omega) (by omega) (by omega) (by omega) (by omega)) (go 188 (by omega) (by omega) (by omega) (by omega) (by omega) (by omega) (by omega))
  · exact a3.of (go 189 (by omega) (by omega) (by omega) (by omega) (by omega) (by omega) (by omega)) (fun s hs => go (4 + s) (by omega) (by omega) (by omega) (by omega) (by omega) (by omega) (by omega))
  · exact a4.of (h2o 1 3 (by omega) (by omega) (by omega) (by omega) (by omega) (by omega) (by omega)) (f7 3 (by omega))
  · exact a5.of (h2o 10 4 (by omega) (by omega) (by omega) (by omega) (by omega) (by omega) (by omega)) (f7 4 (by omega))
  · exact R_wy.of a5.1 a6 (go 29 (by omega) (by omega) (by omega) (by omega) (by omega) (by omega) (by omega)) (go 190 (by omega) (by omega) (by omega) (by omega) (by omega) (by omega) (by omega)) (go 28 (by omega) (by omega) (by omega) (by omega) (by omega) (by omega) (by omega)) (go 191 (by omega) (by omega) (by omega) (by omega) (by omega) (by omega) (by omega)) (go 192 (by omega) (by omega) (by omega) (by omega) (by omega) (by omega) (by omega)) (fun s hs => go (12 + s) (by omega) (by omega) (by omega) (by omega) (by omega) (by omega) (by omega))
  · exact a7.of (go 193 (by omega) (by omega) (by omega) (by omega) (by omega) (by omega) (by omega)) (fun s hs => go (31 + s) (by omega) (by omega) (by omega) (by omega) (by omega) (by omega) (by omega))
  · exact a8.of (h2o 106 1 (by omega) (by omega) (by omega) (by omega) (by omega) (by omega) (by omega)) (f7 9 (by omega)) (go 107 (by omega) (by omega) (by omega) (by omega) (by omega) (by omega) (by omega)) (go 194 (by omega) (by omega) (by omega) (by omega) (by omega) (by omega) (by omega))
  · exact a9.of (h2o 108 5 (by omega) (by omega) (by omega) (by omega) (by omega) (by omega) (by omega)) (f7 11 (by omega)) (go 153 (by omega) (by omega) (by omega) (by omega) (by omega) (by omega) (by omega)) (go 109 (by omega) (by omega) (by omega) (by omega) (by omega) (by omega) (by omega)) (go 195 (by omega) (by omega) (by omega) (by omega) (by omega) (by omega) (by omega)) (go 196 (by omega) (by omega) (by omega) (by omega) (by omega) (by omega) (by omega)) (go 197 (by omega) (by omega) (by omega) (by omega) (by omega) (by omega) (by omega))
  · have fin : ∀ (base2 many2 : Nat → Nat), (∀ i, i < K2 → many2 i ≤ 40 ∧ ms 199 i = nI (many2 i) ∧ (∀ q, q < many2 i → ∃ c, c < 48 ∧ ms 200 (40 * i + q) = nI c) ∧ ∀ c, c < 48 → mem (165 + (nx + 16 - K2 + i) % 16) c = nI (hc (fun q => ms 200 (40 * i + q)) (nI c) (many2 i))) → (∀ c, c < 48 → N c = base2 c + sm (fun i => hc (fun q => ms 200 (40 * i + q)) (nI c) (many2 i)) K2) → R_kp m2 (40 * (k + 1)) := fun base2 many2 hA hN2 => by
      refine teach_kp (l := cl at_ n) (ms := ms) (mem := mem) hK2.1 q2 (by omega) hlt48 hA hN2 hB ?_ ?_ ?_ ?_ ?_ ?_ ?_ ?_ ?_ ?_ ?_
      · rw [gm1 156 3 (by omega) (by omega) (by omega) (by omega), hm1, ms_eq, hK2.2]
      · rw [hm2, ms_eq]
      · rw [gm1 156 2 (by omega) (by omega) (by omega) (by omega), hm1, ms_sl (by omega), ms_eq]
      · intro i hi
        rw [hm2, ms_ne (by omega), ms_sl (by omega), hm4.2.2.2 199 i (by omega) (by omega)]
      · rw [hm2, ms_ne (by omega), ms_eq]
      · intro x hx
        rw [hm2, ms_ne (by omega), ms_ne (by omega)]
        exact hm4.2.2.1 x hx
      · intro q hq
        rw [hm2, ms_ne (by omega), ms_ne (by omega)]
        exact hm4.2.1 q hq
      · intro c hc1
        rw [gm1 (165 + nx) c (by omega) (by omega) (by omega) (by omega), hm1, ms_ne (by omega), ms_ne (by omega)]
        exact hm3.2.1 c hc1
      · intro r c hr hrn
        exact h2o (165 + r) c (by omega) (by omega) (by omega) (by omega) (by omega) (by omega) (by omega)
      · intro s j hs hj
        rw [gm1 (158 + s) j (by omega) (by omega) (by omega) (by omega), hm1, ms_ne (by omega), ms_ne (by omega)]
        exact hm3.1 s j hs hj
      · intro c hc1
        rw [hm2, ms_ne (by omega), ms_ne (by omega)]
        exact hm4.1 c hc1
    have m199 : ∀ i, m1 199 i = mem 199 i := fun i => h1o 199 i (by omega) (by omega) (by omega)
    have m200 : ∀ i, m1 200 i = mem 200 i := fun i => h1o 200 i (by omega) (by omega) (by omega)
    rcases hcase with ⟨z1, rfl, rfl⟩ | ⟨rfl, rfl, m0, h0, hms⟩
    · have hfun : ∀ i, (fun q => ms 200 (40 * i + q)) = fun q => mem 200 (40 * i + q) := fun i => funext fun q => m200 _
      refine fin base many (fun i hi => ?_) (fun c hc1 => ?_)
      · obtain ⟨y1, y2, y3, y4⟩ := q6 i hi
        exact ⟨y1, by rw [m199]; exact y2, fun q hq => by rw [m200]; exact y3 q hq, fun c hc1 => by rw [hfun i]; exact y4 c hc1⟩
      · rw [← hNe]
        have : (fun i => hc (fun q => ms 200 (40 * i + q)) (nI c) (many i)) = fun i => hc (fun q => mem 200 (40 * i + q)) (nI c) (many i) := funext fun i => by rw [hfun i]
        rw [this]
    · have s199 : ∀ i, i < 15 → ms 199 i = mem 199 (i + 1) := fun i hi => by rw [hms, ms_ne (by omega), h0.1 i (by omega), if_pos (by omega), m199]
      have s200 : ∀ i q, i < 15 → q < 40 → ms 200 (40 * i + q) = mem 200 (40 * (i + 1) + q) := fun i q hi hq => by rw [hms, ms_ne (by omega), h0.2.1 i q (by omega) hq, if_pos (by omega), m200]
      have hcc : ∀ i c t, i < 15 → t ≤ 40 → hc (fun q => ms 200 (40 * i + q)) (nI c) t = hc (fun q => mem 200 (40 * (i + 1) + q)) (nI c) t := fun i c t hi => by
        induction t with
        | zero => intro _; rfl
        | succ t ih =>
          intro ht
          show hc _ _ t + (if ms 200 (40 * i + t) = nI c then 1 else 0) = hc _ _ t + (if mem 200 (40 * (i + 1) + t) = nI c then 1 else 0)
          rw [ih (by omega), s200 i t hi (by omega)]
      refine fin (fun c => base c + hc (fun q => mem 200 (40 * 0 + q)) (nI c) (many 0)) (fun i => many (i + 1)) (fun i hi => ?_) (fun c hc1 => ?_)
      · obtain ⟨y1, y2, y3, y4⟩ := q6 (i + 1) (by omega)
        refine ⟨y1, by rw [s199 i hi]; exact y2, fun q hq => by rw [s200 i q hi (by omega)]; exact y3 q hq, fun c hc1 => ?_⟩
        rw [hcc i c _ hi y1, show (nx + 16 - 15 + i) % 16 = (nx + 16 - 16 + (i + 1)) % 16 by congr 1; omega]
        exact y4 c hc1
      · rw [← hNe]
        have e2 : sm (fun i => hc (fun q => ms 200 (40 * i + q)) (nI c) (many (i + 1))) 15 = sm (fun i => hc (fun q => mem 200 (40 * (i + 1) + q)) (nI c) (many (i + 1))) 15 := sm_congr (fun i hi => hcc i c _ hi (q6 (i + 1) (by omega)).1)
        have e3 : ∀ (g : Nat → Nat) m, sm g (m + 1) = g 0 + sm (fun i => g (i + 1)) m := fun g m => by
          induction m with
          | zero => show 0 + g 0 = g 0 + 0; omega
          | succ m ih => show sm g (m + 1) + g (m + 1) = g 0 + (sm (fun i => g (i + 1)) m + g (m + 1)); rw [ih]; omega
        show base c + sm _ (15 + 1) = base c + hc (fun q => mem 200 (40 * 0 + q)) (nI c) (many 0) + sm _ 15
        rw [e2, e3]
        omega
  · exact b2.of (go 186 (by omega) (by omega) (by omega) (by omega) (by omega) (by omega) (by omega)) (f7 19 (by omega)) (f7 20 (by omega)) (f7 21 (by omega))
  · exact b3.of (dat_of (h2o 1 2 (by omega) (by omega) (by omega) (by omega) (by omega) (by omega) (by omega)) (h2o 1 3 (by omega) (by omega) (by omega) (by omega) (by omega) (by omega) (by omega)) (h2o 10 4 (by omega) (by omega) (by omega) (by omega) (by omega) (by omega) (by omega)) (go 2 (by omega) (by omega) (by omega) (by omega) (by omega) (by omega) (by omega)) (fun s hs => go (4 + s) (by omega) (by omega) (by omega) (by omega) (by omega) (by omega) (by omega)) (go 29 (by omega) (by omega) (by omega) (by omega) (by omega) (by omega) (by omega)) (go 28 (by omega) (by omega) (by omega) (by omega) (by omega) (by omega) (by omega)) (fun s hs => go (12 + s) (by omega) (by omega) (by omega) (by omega) (by omega) (by omega) (by omega)) (fun s hs => go (31 + s) (by omega) (by omega) (by omega) (by omega) (by omega) (by omega) (by omega))) (h2o 40 6 (by omega) (by omega) (by omega) (by omega) (by omega) (by omega) (by omega)) (h2o 40 5 (by omega) (by omega) (by omega) (by omega) (by omega) (by omega) (by omega)) (h2o 104 1 (by omega) (by omega) (by omega) (by omega) (by omega) (by omega) (by omega)) (go 105 (by omega) (by omega) (by omega) (by omega) (by omega) (by omega) (by omega)) (go 42 (by omega) (by omega) (by omega) (by omega) (by omega) (by omega) (by omega))

/-! THE DATA of both sides as one PD -/
def wi (a : Nat) : Int32 := if a = 0 then -1 else nI (a - 1)
theorem wi_0 : wi 0 = -1 := rfl
theorem wi_s (w : Nat) : wi (w + 1) = nI w := rfl
theorem wi_1 (a : Nat) : wi a + 1 = nI a := by
  unfold wi
  by_cases h : a = 0
  · subst h; rfl
  · rw [if_neg h, nI_1]; congr 1; omega
theorem nI_nm1 {a : Nat} (h : a < 2 ^ 31) : ¬ nI a = -1 := fun q => nI_pos h (by rw [q]; decide)
theorem sm_ix {a b : Nat} : nI a * 2 + nI b = nI (2 * a + b) := by rw [show (2 : Int32) = nI 2 from rfl, pk_mul, nI_add, Nat.mul_comm]
theorem sm_ix2 {a b : Nat} : 2 * nI a + nI b = nI (2 * a + b) := by rw [show (2 : Int32) = nI 2 from rfl, pk_mul, nI_add]
def DX (mem : TMem) (d : PD) : Prop := mem 1 2 = nI (dn d) ∧ dn d ≤ 40 ∧ mem 1 3 = nI (dst d) ∧ dst d ≤ 20 ∧ mem 10 4 = nI (dW d) ∧ dW d ≤ 8 ∧
  (∀ w, w < dW d → 1 ≤ dwy d w ∧ dwy d w ≤ 2 ∧ mem 29 w = nI (dwy d w)) ∧
  (∀ w v, w < dW d → v < dwy d w → 1 ≤ dln d w v ∧ dln d w v ≤ 4 ∧ mem 28 (2 * w + v) = nI (dln d w v)) ∧
  (∀ w v k, w < dW d → v < dwy d w → k < dln d w v → dsd d w v k < 6 ∧ mem (12 + (2 * w + v)) k = nI (dsd d w v k)) ∧
  (∀ s f, s < 6 → f < dn d → G_X2_costAt mem (nI s) (nI f) ∧ F_X2_costAt mem (nI s) (nI f) = nI (dc d s f) ∧ dc d s f ≤ 50) ∧
  (∀ a b, a < 9 → b < 9 → G_X5_joint (wi a) (wi b) ∧ F_X5_joint mem (wi a) (wi b) = nI (dJ d a b) ∧ dJ d a b ≤ 1000000)
def DM (mem : TMem) (d : PD) : Prop := mem 187 0 = nI (dn d) ∧ dn d ≤ 40 ∧ mem 187 3 = nI (dst d) ∧ dst d ≤ 20 ∧ mem 187 4 = nI (dW d) ∧ dW d ≤ 8 ∧
  (∀ w, w < dW d → 1 ≤ dwy d w ∧ dwy d w ≤ 2 ∧ mem 190 w = nI (dwy d w)) ∧
  (∀ w v, w < dW d → v < dwy d w → 1 ≤ dln d w v ∧ dln d w v ≤ 4 ∧ mem 191 (2 * w + v) = nI (dln d w v)) ∧
  (∀ w v k, w < dW d → v < dwy d w → k < dln d w v → dsd d w v k < 6 ∧ mem 192 (4 * (2 * w + v) + k) = nI (dsd d w v k)) ∧
  (∀ s f, s < 6 → f < dn d → G_X11_costOf mem (nI s) (nI f) ∧ F_X11_costOf mem (nI s) (nI f) = nI (dc d s f) ∧ dc d s f ≤ 50) ∧
  (∀ a b, a < 9 → b < 9 → G_X11_behind (wi a) (wi b) ∧ ((F_X11_behind mem (wi a) (wi b) = -1 ∧ dJ d a b = 1000000) ∨ (dJ d a b ≤ 100 ∧ F_X11_behind mem (wi a) (wi b) = nI (dJ d a b))))
section D_
variable {mem m2 : TMem} {d : PD}
theorem DX.fr (h : DX mem d) : mem 1 2 = nI (dn d) := h.1
theorem DX.n40 (h : DX mem d) : dn d ≤ 40 := h.2.1
theorem DX.st (h : DX mem d) : mem 1 3 = nI (dst d) := h.2.2.1
theorem DX.s20 (h : DX mem d) : dst d ≤ 20 := h.2.2.2.1
theorem DX.wd (h : DX mem d) : mem 10 4 = nI (dW d) := h.2.2.2.2.1
theorem DX.w8 (h : DX mem d) : dW d ≤ 8 := h.2.2.2.2.2.1
theorem DX.wy (h : DX mem d) : ∀ w, w < dW d → 1 ≤ dwy d w ∧ dwy d w ≤ 2 ∧ mem 29 w = nI (dwy d w) := h.2.2.2.2.2.2.1
theorem DX.ln (h : DX mem d) : ∀ w v, w < dW d → v < dwy d w → 1 ≤ dln d w v ∧ dln d w v ≤ 4 ∧ mem 28 (2 * w + v) = nI (dln d w v) := h.2.2.2.2.2.2.2.1
theorem DX.sd (h : DX mem d) : ∀ w v k, w < dW d → v < dwy d w → k < dln d w v → dsd d w v k < 6 ∧ mem (12 + (2 * w + v)) k = nI (dsd d w v k) := h.2.2.2.2.2.2.2.2.1
theorem DX.co (h : DX mem d) : ∀ s f, s < 6 → f < dn d → G_X2_costAt mem (nI s) (nI f) ∧ F_X2_costAt mem (nI s) (nI f) = nI (dc d s f) ∧ dc d s f ≤ 50 := h.2.2.2.2.2.2.2.2.2.1
theorem DX.jo (h : DX mem d) : ∀ a b, a < 9 → b < 9 → G_X5_joint (wi a) (wi b) ∧ F_X5_joint mem (wi a) (wi b) = nI (dJ d a b) ∧ dJ d a b ≤ 1000000 := h.2.2.2.2.2.2.2.2.2.2
theorem DM.fr (h : DM mem d) : mem 187 0 = nI (dn d) := h.1
theorem DM.n40 (h : DM mem d) : dn d ≤ 40 := h.2.1
theorem DM.st (h : DM mem d) : mem 187 3 = nI (dst d) := h.2.2.1
theorem DM.s20 (h : DM mem d) : dst d ≤ 20 := h.2.2.2.1
theorem DM.wd (h : DM mem d) : mem 187 4 = nI (dW d) := h.2.2.2.2.1
theorem DM.w8 (h : DM mem d) : dW d ≤ 8 := h.2.2.2.2.2.1
theorem DM.wy (h : DM mem d) : ∀ w, w < dW d → 1 ≤ dwy d w ∧ dwy d w ≤ 2 ∧ mem 190 w = nI (dwy d w) := h.2.2.2.2.2.2.1
theorem DM.ln (h : DM mem d) : ∀ w v, w < dW d → v < dwy d w → 1 ≤ dln d w v ∧ dln d w v ≤ 4 ∧ mem 191 (2 * w + v) = nI (dln d w v) := h.2.2.2.2.2.2.2.1
theorem DM.sd (h : DM mem d) : ∀ w v k, w < dW d → v < dwy d w → k < dln d w v → dsd d w v k < 6 ∧ mem 192 (4 * (2 * w + v) + k) = nI (dsd d w v k) := h.2.2.2.2.2.2.2.2.1
theorem DM.co (h : DM mem d) : ∀ s f, s < 6 → f < dn d → G_X11_costOf mem (nI s) (nI f) ∧ F_X11_costOf mem (nI s) (nI f) = nI (dc d s f) ∧ dc d s f ≤ 50 := h.2.2.2.2.2.2.2.2.2.1
theorem DM.be (h : DM mem d) : ∀ a b, a < 9 → b < 9 → G_X11_behind (wi a) (wi b) ∧ ((F_X11_behind mem (wi a) (wi b) = -1 ∧ dJ d a b = 1000000) ∨ (dJ d a b ≤ 100 ∧ F_X11_behind mem (wi a) (wi b) = nI (dJ d a b))) := h.2.2.2.2.2.2.2.2.2.2
theorem DX.of (h : DX mem d) (he : ∀ o, o < 40 → m2 o = mem o) : DX m2 d := by
  refine ⟨by rw [he 1 (by omega)]; exact h.fr, h.n40, by rw [he 1 (by omega)]; exact h.st, h.s20, by rw [he 10 (by omega)]; exact h.wd, h.w8, by rw [he 29 (by omega)]; exact h.wy, by rw [he 28 (by omega)]; exact h.ln, fun w v k h1 h2 h3 => ?_, fun s f h1 h2 => ?_, fun a b h1 h2 => ?_⟩
  · have := (h.wy w h1).2.1
    have := h.w8
    rw [he (12 + (2 * w + v)) (by omega)]
    exact h.sd w v k h1 h2 h3
  · have := h.co s f h1 h2
    unfold G_X2_costAt F_X2_costAt at this ⊢
    rw [nI_clamp (n := s) (by omega)] at this ⊢
    rw [he 2 (by omega), he (4 + s) (by omega)]
    exact this
  · have := h.jo a b h1 h2
    unfold F_X5_joint at this ⊢
    rw [wi_1, wi_1, nI_clamp (by omega), nI_clamp (by omega)] at this ⊢
    rw [he (31 + a) (by omega)]
    exact this
theorem DM.of (h : DM mem d) (h0 : m2 187 0 = mem 187 0) (h3 : m2 187 3 = mem 187 3) (h4 : m2 187 4 = mem 187 4) (he : ∀ o, 188 ≤ o → o < 194 → m2 o = mem o) : DM m2 d := by
  refine ⟨by rw [h0]; exact h.fr, h.n40, by rw [h3]; exact h.st, h.s20, by rw [h4]; exact h.wd, h.w8, by rw [he 190 (by omega) (by omega)]; exact h.wy, by rw [he 191 (by omega) (by omega)]; exact h.ln, by rw [he 192 (by omega) (by omega)]; exact h.sd, fun s f h1 h2 => ?_, fun a b h1 h2 => ?_⟩
  · have := h.co s f h1 h2
    unfold G_X11_costOf F_X11_costOf at this ⊢
    rw [he 188 (by omega) (by omega), he 189 (by omega) (by omega)]
    exact this
  · have := h.be a b h1 h2
    unfold F_X11_behind at this ⊢
    rw [he 193 (by omega) (by omega)]
    exact this
end D_
theorem dJ_dat {mem : TMem} {a b : Nat} (ha : a < 9) : dJ (dat mem) a b = if mem (31 + a) b = -1 then 1000000 else (mem (31 + a) b).toNatClampNeg := if_pos ha
theorem dc_dat {mem : TMem} {s f : Nat} (hs : s < 6) : dc (dat mem) s f = if mem 2 f = -1 then 10 else (mem (4 + s) (mem 2 f).toNatClampNeg).toNatClampNeg := if_pos hs
theorem INV_DX {k : Nat} {mem : TMem} (h : INV k mem) : DX mem (dat mem) := by
  obtain ⟨n, W, T, a1, a2, a3, a4, a5, a6, a7, a8, a9, b1, b2, b3⟩ := h
  obtain ⟨c, st1, st2, st3⟩ := a4
  have en : dn (dat mem) = n := by show (mem 1 2).toNatClampNeg = n; rw [a1.2.1, nI_clamp (by have := a1.1; omega)]
  have es : dst (dat mem) = c := by show (mem 1 3).toNatClampNeg = c; rw [st2, nI_clamp (by omega)]
  have ew : dW (dat mem) = W := by show (mem 10 4).toNatClampNeg = W; rw [a5.2.1, nI_clamp (by have := a5.1; omega)]
  have hW := a5.1
  have ewy : ∀ w, w < W → ∃ v, 1 ≤ v ∧ v ≤ 2 ∧ mem 29 w = nI v ∧ dwy (dat mem) w = v ∧ ∀ u, u < v → ∃ ln, 1 ≤ ln ∧ ln ≤ 4 ∧ mem 28 (2 * w + u) = nI ln ∧ dln (dat mem) w u = ln ∧ ∀ k, k < ln → ∃ s, s < 6 ∧ mem (12 + (2 * w + u)) k = nI s ∧ dsd (dat mem) w u k = s := fun w hw => by
    obtain ⟨v, q1, q2, q3, q4, q5, q6⟩ := a6.1 w hw
    refine ⟨v, q1, q2, q3, by show (mem 29 w).toNatClampNeg = v; rw [q3, nI_clamp (by omega)], fun u hu => ?_⟩
    obtain ⟨ln, r1, r2, r3, r4, r5⟩ := q5 u hu
    refine ⟨ln, r1, r2, r3, by show (mem 28 (2 * w + u)).toNatClampNeg = ln; rw [r3, nI_clamp (by omega)], fun k hk => ?_⟩
    obtain ⟨s, t1, t2, t3⟩ := r5 k hk
    refine ⟨s, t1, t2, ?_⟩
    show (if 2 * w + u < 16 then (mem (12 + (2 * w + u)) k).toNatClampNeg else 0) = s
    rw [if_pos (by omega), t2, nI_clamp (by omega)]
  refine ⟨by rw [en]; exact a1.2.1, by rw [en]; exact a1.1, by rw [es]; exact st2, by rw [es]; exact st1, by rw [ew]; exact a5.2.1, by rw [ew]; exact hW, fun w hw => ?_, fun w v hw hv => ?_, fun w v k hw hv hk => ?_, fun s f hs hf => ?_, fun a b ha hb => ?_⟩
  · rw [ew] at hw
    obtain ⟨v, q1, q2, q3, q4, q5⟩ := ewy w hw
    rw [q4]
    exact ⟨q1, q2, q3⟩
  · rw [ew] at hw
    obtain ⟨v2, q1, q2, q3, q4, q5⟩ := ewy w hw
    rw [q4] at hv
    obtain ⟨ln, r1, r2, r3, r4, r5⟩ := q5 v hv
    rw [r4]
    exact ⟨r1, r2, r3⟩
  · rw [ew] at hw
    obtain ⟨v2, q1, q2, q3, q4, q5⟩ := ewy w hw
    rw [q4] at hv
    obtain ⟨ln, r1, r2, r3, r4, r5⟩ := q5 v hv
    rw [r4] at hk
    obtain ⟨s, t1, t2, t3⟩ := r5 k hk
    rw [t3]
    exact ⟨t1, t2⟩
  · rw [en] at hf
    have hn := a1.1
    rw [dc_dat hs]
    unfold G_X2_costAt F_X2_costAt
    rw [nI_clamp (n := f) (by omega), nI_clamp (n := s) (by omega)]
    rcases (a2 f hf).2 with q | ⟨j, q1, q2⟩
    · rw [q, if_pos rfl, if_pos rfl]
      exact ⟨⟨vp_in_nI (by omega) (by omega), fun z => absurd rfl z⟩, rfl, by omega⟩
    · rw [q2, if_neg (nI_nm1 (by omega)), if_neg (nI_nm1 (by omega)), nI_clamp (by omega)]
      obtain ⟨c2, z1, z2⟩ := (a3 s j hs q1).2
      rw [z2, nI_clamp (by omega)]
      exact ⟨⟨vp_in_nI (by omega) (by omega), fun _ => ⟨vp_in_nI (by omega) (by omega), vp_in_nI (by omega) (by omega)⟩⟩, rfl, by omega⟩
  · rw [dJ_dat ha]
    unfold G_X5_joint G_X5_grammarOf F_X5_joint
    rw [wi_1, wi_1, nI_clamp (by omega), nI_clamp (by omega)]
    refine ⟨⟨vp_in_nI (by omega) (by omega), vp_in_nI (by omega) (by omega)⟩, ?_⟩
    rcases (a7 a b ha hb).2 with q | ⟨c2, q1, q2⟩
    · rw [q, if_pos rfl, if_pos rfl]
      exact ⟨rfl, by omega⟩
    · rw [q2, if_neg (nI_nm1 (by omega)), if_neg (nI_nm1 (by omega)), nI_clamp (by omega)]
      exact ⟨rfl, by omega⟩
theorem be_ix (mem : TMem) {a b : Nat} (ha : a < 9) (hb : b < 9) : G_X11_behind (wi a) (wi b) ∧ F_X11_behind mem (wi a) (wi b) = mem 193 (9 * gi a + gi b) := by
  have e9 : ∀ x y : Nat, (9 : Int32) * nI x + nI y = nI (9 * x + y) := fun x y => by rw [show (9 : Int32) = nI 9 from rfl, pk_mul, nI_add]
  have e8 : (8 : Int32) = nI 8 := rfl
  unfold G_X11_behind F_X11_behind wi gi
  by_cases h1 : a = 0 <;> by_cases h2 : b = 0
  · rw [if_pos h1, if_pos h2, if_pos h1, if_pos h2, if_pos rfl, if_pos rfl, e8, e9, nI_clamp (by omega)]
    exact ⟨⟨fun _ => ⟨fun _ => vp_in_nI (by omega) (by omega), fun z => absurd rfl z⟩, fun z => absurd rfl z⟩, rfl⟩
  · rw [if_pos h1, if_neg h2, if_pos h1, if_neg h2, if_pos rfl, if_neg (nI_nm1 (by omega)), e8, e9, e9, nI_clamp (n := 9 * 8 + (b - 1)) (by omega)]
    exact ⟨⟨fun _ => ⟨fun z => absurd z (nI_nm1 (by omega)), fun _ => vp_in_nI (by omega) (by omega)⟩, fun z => absurd rfl z⟩, rfl⟩
  · rw [if_neg h1, if_pos h2, if_neg h1, if_pos h2, if_neg (nI_nm1 (by omega)), if_pos rfl, e8, e9, e9, nI_clamp (n := 9 * (a - 1) + 8) (by omega)]
    exact ⟨⟨fun z => absurd z (nI_nm1 (by omega)), fun _ => ⟨fun _ => vp_in_nI (by omega) (by omega), fun z => absurd rfl z⟩⟩, rfl⟩
  · rw [if_neg h1, if_neg h2, if_neg h1, if_neg h2, if_neg (nI_nm1 (by omega)), if_neg (nI_nm1 (by omega)), e8, e9, e9, e9, e9, nI_clamp (n := 9 * (a - 1) + (b - 1)) (by omega)]
    exact ⟨⟨fun z => absurd z (nI_nm1 (by omega)), fun _ => ⟨fun z => absurd z (nI_nm1 (by omega)), fun _ => vp_in_nI (by omega) (by omega)⟩⟩, rfl⟩
theorem INV_DM {k : Nat} {mem : TMem} (h : INV k mem) : DM mem (dat mem) := by
  have hX := INV_DX h
  obtain ⟨n, W, T, a1, a2, a3, a4, a5, a6, a7, a8, a9, b1, b2, b3⟩ := h
  obtain ⟨c, st1, st2, st3⟩ := a4
  have en : mem 187 0 = mem 1 2 := by rw [a1.2.1, a1.2.2]
  have es : mem 187 3 = mem 1 3 := by rw [st2, st3]
  have ew : mem 187 4 = mem 10 4 := by rw [a5.2.1, a5.2.2]
  have hW := a5.1
  have eW : dW (dat mem) = W := by show (mem 10 4).toNatClampNeg = W; rw [a5.2.1, nI_clamp (by omega)]
  have eN : dn (dat mem) = n := by show (mem 1 2).toNatClampNeg = n; rw [a1.2.1, nI_clamp (by have := a1.1; omega)]
  refine ⟨by rw [en]; exact hX.fr, hX.n40, by rw [es]; exact hX.st, hX.s20, by rw [ew]; exact hX.wd, hX.w8, fun w hw => ?_, fun w v hw hv => ?_, fun w v k hw hv hk => ?_, fun s f hs hf => ?_, fun a b ha hb => ?_⟩
  · have z := hX.wy w hw
    obtain ⟨v, q1, q2, q3, q4, q5, q6⟩ := a6.1 w (by omega)
    refine ⟨z.1, z.2.1, ?_⟩
    rw [q4, ← q3]
    exact z.2.2
  · have z := hX.ln w v hw hv
    have z2 := hX.wy w hw
    obtain ⟨v2, q1, q2, q3, q4, q5, q6⟩ := a6.1 w (by omega)
    have e : v2 = dwy (dat mem) w := (nI_eq (by omega) (by omega)).mp (by rw [← q3]; exact z2.2.2)
    obtain ⟨ln, r1, r2, r3, r4, r5⟩ := q5 v (by omega)
    refine ⟨z.1, z.2.1, ?_⟩
    rw [r4, ← r3]
    exact z.2.2
  · have z := hX.ln w v hw hv
    have z2 := hX.wy w hw
    have z3 := hX.sd w v k hw hv hk
    obtain ⟨v2, q1, q2, q3, q4, q5, q6⟩ := a6.1 w (by omega)
    have e : v2 = dwy (dat mem) w := (nI_eq (by omega) (by omega)).mp (by rw [← q3]; exact z2.2.2)
    obtain ⟨ln, r1, r2, r3, r4, r5⟩ := q5 v (by omega)
    have e2 : ln = dln (dat mem) w v := (nI_eq (by omega) (by omega)).mp (by rw [← r3]; exact z.2.2)
    obtain ⟨s, t1, t2, t3⟩ := r5 k (by omega)
    refine ⟨z3.1, ?_⟩
    rw [t3, ← t2]
    exact z3.2
  · have z := hX.co s f hs hf
    rw [eN] at hf
    have hn := a1.1
    unfold G_X2_costAt F_X2_costAt at z
    unfold G_X11_costOf F_X11_costOf
    rw [nI_clamp (n := f) (by omega)] at z ⊢
    rw [nI_clamp (n := s) (by omega)] at z
    rw [(a2 f hf).1]
    rcases (a2 f hf).2 with q | ⟨j, q1, q2⟩
    · rw [q] at z ⊢
      exact ⟨⟨z.1.1, fun z => absurd rfl z⟩, z.2⟩
    · rw [q2] at z ⊢
      rw [nI_clamp (by omega)] at z
      have e8 : (8 : Int32) * nI s + nI j = nI (8 * s + j) := by rw [show (8 : Int32) = nI 8 from rfl, pk_mul, nI_add]
      rw [e8, nI_clamp (by omega), (a3 s j hs q1).1]
      exact ⟨⟨z.1.1, fun _ => vp_in_nI (by omega) (by omega)⟩, z.2⟩
  · obtain ⟨g, e⟩ := be_ix mem ha hb
    refine ⟨g, ?_⟩
    rw [e, (a7 a b ha hb).1, dJ_dat ha]
    rcases (a7 a b ha hb).2 with q | ⟨c2, q1, q2⟩
    · exact Or.inl ⟨q, by rw [q]; rfl⟩
    · exact Or.inr (by rw [q2, if_neg (nI_nm1 (by omega)), nI_clamp (by omega)]; exact ⟨q1, rfl⟩)
/-- what reading, spotting and editing may write -/
def scr (o j : Nat) : Prop := (40 ≤ o ∧ o < 106) ∨ o = 155 ∨ (181 ≤ o ∧ o < 186) ∨ (o = 187 ∧ j = 26) ∨ 201 ≤ o
theorem INV_sc {k : Nat} {mem m2 : TMem} (h : INV k mem) (hk : ∀ o j, ¬ scr o j → m2 o j = mem o j) (hc : R_ca m2) : INV (k + 1) m2 := by
  obtain ⟨n, W, T, a1, a2, a3, a4, a5, a6, a7, a8, a9, b1, b2, b3⟩ := h
  have g : ∀ o, (o < 40 ∨ (106 ≤ o ∧ o < 155) ∨ (156 ≤ o ∧ o < 181) ∨ o = 186 ∨ (188 ≤ o ∧ o < 201)) → m2 o = mem o := fun o ho => funext fun j => hk o j (by unfold scr; omega)
  have g7 : ∀ j, ¬ j = 26 → m2 187 j = mem 187 j := fun j hj => hk 187 j (by unfold scr; omega)
  have e : ∀ o j, (o < 40 ∨ (106 ≤ o ∧ o < 155) ∨ (156 ≤ o ∧ o < 181) ∨ o = 186 ∨ (188 ≤ o ∧ o < 201)) → m2 o j = mem o j := fun o j ho => by rw [g o ho]
  exact ⟨n, W, T, a1.of (e 1 2 (by omega)) (g7 0 (by omega)), a2.of (g 2 (by omega)) (g 188 (by omega)), a3.of (g 189 (by omega)) (fun s hs => g (4 + s) (by omega)), a4.of (e 1 3 (by omega)) (g7 3 (by omega)), a5.of (e 10 4 (by omega)) (g7 4 (by omega)), R_wy.of a5.1 a6 (g 29 (by omega)) (g 190 (by omega)) (g 28 (by omega)) (g 191 (by omega)) (g 192 (by omega)) (fun s hs => g (12 + s) (by omega)), a7.of (g 193 (by omega)) (fun s hs => g (31 + s) (by omega)), a8.of (e 106 1 (by omega)) (g7 9 (by omega)) (g 107 (by omega)) (g 194 (by omega)), a9.of (e 108 5 (by omega)) (g7 11 (by omega)) (g 153 (by omega)) (g 109 (by omega)) (g 195 (by omega)) (g 196 (by omega)) (g 197 (by omega)), (b1.of (e 156 3 (by omega)) (g7 16 (by omega)) (e 156 2 (by omega)) (g 199 (by omega)) (g 200 (by omega)) (g 198 (by omega)) (fun s hs => g (158 + s) (by omega)) (fun s hs => g (165 + s) (by omega))).up (by omega), b2.of (g 186 (by omega)) (g7 19 (by omega)) (g7 20 (by omega)) (g7 21 (by omega)), hc⟩
theorem dat_sc {mem m2 : TMem} (hk : ∀ o, o < 40 → m2 o = mem o) : dat m2 = dat mem :=
  dat_of (by rw [hk 1 (by omega)]) (by rw [hk 1 (by omega)]) (by rw [hk 10 (by omega)]) (hk 2 (by omega)) (fun s hs => hk (4 + s) (by omega)) (hk 29 (by omega)) (hk 28 (by omega)) (fun s hs => hk (12 + s) (by omega)) (fun s hs => hk (31 + s) (by omega))

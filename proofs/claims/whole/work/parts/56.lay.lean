/-! LAYING, pure: t k is the word told at place k, T places -/
def GU (d : PD) (t : Nat → Nat) (T m : Nat) (la : Nat → Nat → Nat → Nat) (k v s : Nat) : Nat := if s + 1 < dln d (t k) v then la k v (s + 1) else if k + 1 = T then (if m = 0 then dJ d (t k + 1) 0 else 1000000) else (if m = 0 then 1000000 else dJ d (t k + 1) (t (k + 1) + 1) + mn (dwy d (t (k + 1))) (fun u => la (k + 1) u 0))
def LA (d : PD) (t : Nat → Nat) (T : Nat) : Nat → Nat → Nat → Nat → Nat
  | 0, _, _, _ => 1000000
  | m + 1, k, v, s => sa (min (GU d t T m (LA d t T m) k v s) (LA d t T m k v s + dst d)) (dc d (dsd d (t k) v s) (dn d - (m + 1)))
def GL (d : PD) (t : Nat → Nat) (T m k v s : Nat) : Nat := GU d t T m (LA d t T m) k v s
def BW (d : PD) (t : Nat → Nat) (T m k : Nat) : Nat := mn (dwy d (t k)) (fun u => LA d t T m k u 0)
section LAY_
variable {d : PD} {t : Nat → Nat} {T : Nat}
theorem LA_s (m k v s : Nat) : LA d t T (m + 1) k v s = sa (min (GL d t T m k v s) (LA d t T m k v s + dst d)) (dc d (dsd d (t k) v s) (dn d - (m + 1))) := rfl
theorem LA_far (m k v s : Nat) : LA d t T m k v s ≤ 1000000 := by
  cases m with
  | zero => exact Nat.le_refl _
  | succ m => rw [LA_s]; exact sa_far _ _
theorem BW_far (m k : Nat) : BW d t T m k ≤ 1000000 := mn_far _ _
theorem GL_in {m k v s : Nat} (h : s + 1 < dln d (t k) v) : GL d t T m k v s = LA d t T m k v (s + 1) := if_pos h
theorem GL_end {m k v s : Nat} (h : ¬ s + 1 < dln d (t k) v) (hk : k + 1 = T) : GL d t T m k v s = if m = 0 then dJ d (t k + 1) 0 else 1000000 := by
  unfold GL GU
  rw [if_neg h, if_pos hk]
theorem GL_on {m k v s : Nat} (h : ¬ s + 1 < dln d (t k) v) (hk : ¬ k + 1 = T) : GL d t T m k v s = if m = 0 then 1000000 else dJ d (t k + 1) (t (k + 1) + 1) + BW d t T m (k + 1) := by
  unfold GL GU
  rw [if_neg h, if_neg hk]
  rfl
def SCf (d : PD) (y f : Nat) : Nat → Nat
  | 0 => 0
  | u + 1 => SCf d y f u + dc d y (f + u)
theorem SCf_front (y f u : Nat) : SCf d y f (u + 1) = dc d y f + SCf d y (f + 1) u := by
  induction u with
  | zero => show 0 + dc d y (f + 0) = dc d y f + 0; rw [Nat.add_zero]; omega
  | succ u ih =>
    show SCf d y f (u + 1) + dc d y (f + (u + 1)) = dc d y f + (SCf d y (f + 1) u + dc d y (f + 1 + u))
    rw [ih, show f + (u + 1) = f + 1 + u by omega]
    omega
/-- u frames from frame f on, all of one sound -/
def SC (d : PD) (y f u : Nat) : Nat := dst d * (u - 1) + SCf d y f u
theorem SC_1 (y f : Nat) : SC d y f 1 = dc d y f := by
  show dst d * 0 + (0 + dc d y (f + 0)) = _
  rw [Nat.mul_zero, Nat.add_zero]
  omega
theorem SC_front (y f u : Nat) : SC d y f (u + 2) = SC d y (f + 1) (u + 1) + dst d + dc d y f := by
  unfold SC
  rw [SCf_front, show u + 2 - 1 = u + 1 by omega, show u + 1 - 1 = u by omega, Nat.mul_succ]
  omega
theorem SC_back (y f u : Nat) : SC d y f (u + 2) = SC d y f (u + 1) + dst d + dc d y (f + (u + 1)) := by
  unfold SC
  show dst d * (u + 1) + (SCf d y f (u + 1) + dc d y (f + (u + 1))) = _
  rw [show u + 1 - 1 = u by omega, Nat.mul_succ]
  omega
theorem LA_sum (k v s : Nat) : ∀ m, m ≤ dn d → LA d t T m k v s = mn m (fun u => sa (SC d (dsd d (t k) v s) (dn d - m) (u + 1)) (GL d t T (m - 1 - u) k v s)) := by
  intro m
  induction m with
  | zero => intro _; rfl
  | succ m ih =>
    intro hm
    rw [mn_shift, LA_s, sa_minL, ih (by omega), mn_add_cap]
    congr 1
    · rw [SC_1, sa_comm]
      rfl
    · refine mn_congr (fun u hu => ?_)
      rw [SC_front, show dn d - (m + 1) + 1 = dn d - m by omega, show m + 1 - 1 - (u + 1) = m - 1 - u by omega]
      unfold sa
      omega
theorem LA_fin {mem : TMem} (hd : DM mem d) (ht : ∀ k, k < T → t k < dW d) : ∀ m k v s, m ≤ dn d → k < T → v < dwy d (t k) → s < dln d (t k) v → LA d t T m k v s < 1000000 → LA d t T m k v s ≤ 70 * m + 100 * (T - k) := by
  intro m
  have h8 := hd.w8
  induction m with
  | zero => intro k v s _ _ _ _ h; exact absurd h (Nat.lt_irrefl 1000000)
  | succ m ih =>
    intro k v s hm hk hv hs h
    have hw := ht k hk
    have hy := (hd.sd (t k) v s hw hv hs).1
    have hc := (hd.co (dsd d (t k) v s) (dn d - (m + 1)) hy (by omega)).2.2
    have hst := hd.s20
    rw [LA_s] at h ⊢
    have goal : ∀ g, g < 1000000 → g = GL d t T m k v s → g ≤ 70 * m + 100 * (T - k) := by
      intro g hg e
      by_cases c1 : s + 1 < dln d (t k) v
      · rw [GL_in c1] at e
        rw [e] at hg ⊢
        exact ih k v (s + 1) (by omega) hk hv c1 hg
      · by_cases c2 : k + 1 = T
        · rw [GL_end c1 c2] at e
          by_cases c3 : m = 0
          · rw [if_pos c3] at e
            rcases (hd.be (t k + 1) 0 (by omega) (by omega)).2 with ⟨_, q⟩ | ⟨q, _⟩ <;> omega
          · rw [if_neg c3] at e
            omega
        · rw [GL_on c1 c2] at e
          by_cases c3 : m = 0
          · rw [if_pos c3] at e
            omega
          · rw [if_neg c3] at e
            have hw2 := ht (k + 1) (by omega)
            have hb : BW d t T m (k + 1) < 1000000 := by omega
            obtain ⟨u, u1, u2⟩ := mn_some hb
            have hln := (hd.ln (t (k + 1)) u hw2 u1).1
            have := ih (k + 1) u 0 (by omega) (by omega) u1 (by omega) (by show LA d t T m (k + 1) u 0 < 1000000; rw [u2]; exact hb)
            have e2 : LA d t T m (k + 1) u 0 = BW d t T m (k + 1) := u2
            rcases (hd.be (t k + 1) (t (k + 1) + 1) (by omega) (by omega)).2 with ⟨_, q⟩ | ⟨q, _⟩ <;> omega
    have hA := ih k v s (by omega) hk hv hs
    generalize LA d t T m k v s = A at *
    by_cases c : GL d t T m k v s < 1000000
    · have := goal _ c rfl
      unfold sa at h ⊢
      omega
    · unfold sa at h ⊢
      omega
/-- which way: the first of the cheapest -/
def fw (d : PD) (t : Nat → Nat) (T m k : Nat) : Nat := if 1 < dwy d (t k) ∧ LA d t T m k 1 0 < LA d t T m k 0 0 then 1 else 0
theorem fw_lt {m k : Nat} (h : 1 ≤ dwy d (t k)) : fw d t T m k < dwy d (t k) := by
  unfold fw
  split <;> omega
theorem fw_2 (m k : Nat) : fw d t T m k < 2 := by
  unfold fw
  split <;> omega
theorem fw_is {m k : Nat} (h : 1 ≤ dwy d (t k)) (h2 : dwy d (t k) ≤ 2) : LA d t T m k (fw d t T m k) 0 = BW d t T m k := by
  have f0 := LA_far (d := d) (t := t) (T := T) m k 0 0
  have f1 := LA_far (d := d) (t := t) (T := T) m k 1 0
  unfold fw BW
  rcases (show dwy d (t k) = 1 ∨ dwy d (t k) = 2 by omega) with e | e
  · rw [e, if_neg (by omega)]
    show _ = min 1000000 (LA d t T m k 0 0)
    omega
  · rw [e]
    show _ = min (min 1000000 (LA d t T m k 0 0)) (LA d t T m k 1 0)
    by_cases c : LA d t T m k 1 0 < LA d t T m k 0 0
    · rw [if_pos ⟨by omega, c⟩]
      omega
    · rw [if_neg (by omega)]
      omega
def nxt (d : PD) (t : Nat → Nat) (T m : Nat) (q : Nat × Nat × Nat) : Nat × Nat × Nat := if q.2.2 + 1 < dln d (t q.1) q.2.1 then (q.1, q.2.1, q.2.2 + 1) else (q.1 + 1, fw d t T m (q.1 + 1), 0)
def gon (d : PD) (t : Nat → Nat) (T m : Nat) (q : Nat × Nat × Nat) : Prop := GL d t T m q.1 q.2.1 q.2.2 < 1000000 ∧ GL d t T m q.1 q.2.1 q.2.2 ≤ LA d t T m q.1 q.2.1 q.2.2 + dst d
theorem gon_dec (d : PD) (t : Nat → Nat) (T m : Nat) (q : Nat × Nat × Nat) : gon d t T m q ∨ ¬ gon d t T m q := Classical.em _
def PT (d : PD) (t : Nat → Nat) (T : Nat) : Nat → Nat × Nat × Nat
  | 0 => (0, fw d t T (dn d) 0, 0)
  | f + 1 => if GL d t T (dn d - (f + 1)) (PT d t T f).1 (PT d t T f).2.1 (PT d t T f).2.2 < 1000000 ∧ GL d t T (dn d - (f + 1)) (PT d t T f).1 (PT d t T f).2.1 (PT d t T f).2.2 ≤ LA d t T (dn d - (f + 1)) (PT d t T f).1 (PT d t T f).2.1 (PT d t T f).2.2 + dst d then nxt d t T (dn d - (f + 1)) (PT d t T f) else PT d t T f
theorem PT_go {f : Nat} {q : Nat × Nat × Nat} (e : PT d t T f = q) (h : gon d t T (dn d - (f + 1)) q) : PT d t T (f + 1) = nxt d t T (dn d - (f + 1)) q := by
  subst e
  exact if_pos h
theorem PT_st {f : Nat} {q : Nat × Nat × Nat} (e : PT d t T f = q) (h : ¬ gon d t T (dn d - (f + 1)) q) : PT d t T (f + 1) = q := by
  subst e
  exact if_neg h
def QV (d : PD) (t : Nat → Nat) (T : Nat) (q : Nat × Nat × Nat) : Prop := q.1 < T ∧ q.2.1 < dwy d (t q.1) ∧ q.2.2 < dln d (t q.1) q.2.1
theorem nxt_in {m : Nat} {q : Nat × Nat × Nat} (h : q.2.2 + 1 < dln d (t q.1) q.2.1) : nxt d t T m q = (q.1, q.2.1, q.2.2 + 1) := if_pos h
theorem nxt_on {m : Nat} {q : Nat × Nat × Nat} (h : ¬ q.2.2 + 1 < dln d (t q.1) q.2.1) : nxt d t T m q = (q.1 + 1, fw d t T m (q.1 + 1), 0) := if_neg h
theorem QV_nxt {mem : TMem} (hd : DM mem d) (ht : ∀ k, k < T → t k < dW d) {m : Nat} {q : Nat × Nat × Nat} (hq : QV d t T q) (hm : ¬ m = 0) (h : GL d t T m q.1 q.2.1 q.2.2 < 1000000) : QV d t T (nxt d t T m q) := by
  by_cases c : q.2.2 + 1 < dln d (t q.1) q.2.1
  · rw [nxt_in c]
    exact ⟨hq.1, hq.2.1, c⟩
  · rw [nxt_on c]
    have hk : ¬ q.1 + 1 = T := fun e => by
      rw [GL_end c e, if_neg hm] at h
      omega
    have hk2 : q.1 + 1 < T := by have := hq.1; omega
    have hwy := hd.wy (t (q.1 + 1)) (ht _ hk2)
    have hfw := fw_lt (T := T) (m := m) hwy.1
    exact ⟨hk2, hfw, (hd.ln (t (q.1 + 1)) _ (ht _ hk2) hfw).1⟩
theorem QV_PT {mem : TMem} (hd : DM mem d) (ht : ∀ k, k < T → t k < dW d) (hT : 0 < T) : ∀ f, f < dn d → QV d t T (PT d t T f) := by
  intro f
  induction f with
  | zero =>
    intro _
    have hwy := hd.wy (t 0) (ht 0 hT)
    have hfw := fw_lt (T := T) (m := dn d) hwy.1
    exact ⟨hT, hfw, (hd.ln (t 0) _ (ht 0 hT) hfw).1⟩
  | succ f ih =>
    intro hf
    have hq := ih (by omega)
    rcases gon_dec d t T (dn d - (f + 1)) (PT d t T f) with g | g
    · rw [PT_go rfl g]
      exact QV_nxt hd ht hq (by omega) g.1
    · rw [PT_st rfl g]
      exact hq
/-- on the way: the sound that is on from frame f0, held up to frame e -/
def HOLD (d : PD) (t : Nat → Nat) (T f0 e k v s : Nat) : Prop := LA d t T (dn d - f0) k v s < 1000000 ∧ LA d t T (dn d - f0) k v s = SC d (dsd d (t k) v s) f0 (e - f0) + min (GL d t T (dn d - e) k v s) (LA d t T (dn d - e) k v s + dst d)
theorem HOLD_0 {f0 k v s : Nat} (hf : f0 < dn d) (h : LA d t T (dn d - f0) k v s < 1000000) : HOLD d t T f0 (f0 + 1) k v s := by
  refine ⟨h, ?_⟩
  obtain ⟨m, hm⟩ : ∃ m, dn d - f0 = m + 1 := ⟨dn d - f0 - 1, by omega⟩
  rw [show f0 + 1 - f0 = 1 by omega, SC_1, show dn d - (f0 + 1) = m by omega]
  rw [hm] at h ⊢
  rw [LA_s, show dn d - (m + 1) = f0 by omega] at h ⊢
  unfold sa at h ⊢
  omega
theorem HOLD_stop {f0 e k v s : Nat} (h : HOLD d t T f0 e k v s) : sa (SC d (dsd d (t k) v s) f0 (e - f0)) (GL d t T (dn d - e) k v s) = LA d t T (dn d - f0) k v s ↔ gon d t T (dn d - e) (k, v, s) := by
  obtain ⟨h1, h2⟩ := h
  unfold gon
  dsimp only
  generalize LA d t T (dn d - f0) k v s = L at *
  generalize GL d t T (dn d - e) k v s = G at *
  generalize LA d t T (dn d - e) k v s = A at *
  generalize SC d (dsd d (t k) v s) f0 (e - f0) = X at *
  unfold sa
  constructor
  · intro q
    omega
  · intro q
    omega
theorem HOLD_next {f0 e k v s : Nat} (h : HOLD d t T f0 e k v s) (hf : f0 < e) (he : e ≤ dn d) (hg : ¬ gon d t T (dn d - e) (k, v, s)) : e < dn d ∧ HOLD d t T f0 (e + 1) k v s := by
  obtain ⟨h1, h2⟩ := h
  have hst : min (GL d t T (dn d - e) k v s) (LA d t T (dn d - e) k v s + dst d) = LA d t T (dn d - e) k v s + dst d := by
    unfold gon at hg
    dsimp only at hg
    generalize LA d t T (dn d - f0) k v s = L at *
    generalize GL d t T (dn d - e) k v s = G at *
    generalize LA d t T (dn d - e) k v s = A at *
    generalize SC d (dsd d (t k) v s) f0 (e - f0) = X at *
    omega
  rw [hst] at h2
  have hA : LA d t T (dn d - e) k v s < 1000000 := by omega
  have hlt : e < dn d := by
    rcases Nat.lt_or_ge e (dn d) with q | q
    · exact q
    · rw [show dn d - e = 0 by omega] at hA
      exact absurd hA (Nat.lt_irrefl 1000000)
  refine ⟨hlt, h1, ?_⟩
  obtain ⟨m, hm⟩ : ∃ m, dn d - e = m + 1 := ⟨dn d - e - 1, by omega⟩
  obtain ⟨u, hu⟩ : ∃ u, e - f0 = u + 1 := ⟨e - f0 - 1, by omega⟩
  rw [hm, LA_s, show dn d - (m + 1) = e by omega] at hA h2
  rw [h2, show e + 1 - f0 = u + 2 by omega, hu, SC_back, show dn d - (e + 1) = m by omega, show f0 + (u + 1) = e by omega]
  unfold sa at hA ⊢
  omega
end LAY_

/-! PURE: sums that are cut at a million, least ones over ranges, the readings' two tables -/
def sa (x y : Nat) : Nat := min 1000000 (x + y)
def mn : Nat → (Nat → Nat) → Nat
  | 0, _ => 1000000
  | k + 1, f => min (mn k f) (f k)
theorem mn_far (k : Nat) (f : Nat → Nat) : mn k f ≤ 1000000 := by
  induction k with
  | zero => exact Nat.le_refl _
  | succ k ih => unfold mn; omega
theorem mn_le {k : Nat} {f : Nat → Nat} {i : Nat} (h : i < k) : mn k f ≤ f i := by
  induction k with
  | zero => omega
  | succ k ih =>
    unfold mn
    by_cases e : i = k
    · subst e; omega
    · have := ih (by omega); omega
theorem mn_congr {k : Nat} {f g : Nat → Nat} (h : ∀ i, i < k → f i = g i) : mn k f = mn k g := by
  induction k with
  | zero => rfl
  | succ k ih => unfold mn; rw [ih (fun i hi => h i (by omega)), h k (by omega)]
theorem mn_min (k : Nat) (f g : Nat → Nat) : mn k (fun i => min (f i) (g i)) = min (mn k f) (mn k g) := by
  induction k with
  | zero => rfl
  | succ k ih => unfold mn; rw [ih]; dsimp only; omega
theorem mn_shift (k : Nat) (f : Nat → Nat) : mn (k + 1) f = min (f 0) (mn k (fun i => f (i + 1))) := by
  induction k with
  | zero => show min 1000000 (f 0) = min (f 0) 1000000; omega
  | succ k ih =>
    show min (mn (k + 1) f) (f (k + 1)) = min (f 0) (min (mn k (fun i => f (i + 1))) (f (k + 1)))
    rw [ih]; omega
theorem mn_const_far (k : Nat) {f : Nat → Nat} (h : ∀ i, i < k → 1000000 ≤ f i) : mn k f = 1000000 := by
  induction k with
  | zero => rfl
  | succ k ih => unfold mn; rw [ih (fun i hi => h i (by omega))]; have := h k (by omega); omega
theorem mn_some {k : Nat} {f : Nat → Nat} (h : mn k f < 1000000) : ∃ i, i < k ∧ f i = mn k f := by
  induction k with
  | zero => unfold mn at h; omega
  | succ k ih =>
    unfold mn at h ⊢
    by_cases e : mn k f ≤ f k
    · obtain ⟨i, h1, h2⟩ := ih (by omega)
      exact ⟨i, by omega, by omega⟩
    · exact ⟨k, by omega, by omega⟩
theorem mn_ge {k : Nat} {f : Nat → Nat} {z : Nat} (hz : z ≤ 1000000) (h : ∀ i, i < k → z ≤ f i) : z ≤ mn k f := by
  induction k with
  | zero => exact hz
  | succ k ih => unfold mn; have := ih (fun i hi => h i (by omega)); have := h k (by omega); omega
theorem sa_far (x y : Nat) : sa x y ≤ 1000000 := by unfold sa; omega
theorem sa_comm (x y : Nat) : sa x y = sa y x := by unfold sa; omega
theorem sa_assoc (x y z : Nat) : sa (sa x y) z = sa x (sa y z) := by unfold sa; omega
theorem sa_minL (x y z : Nat) : sa (min x y) z = min (sa x z) (sa y z) := by unfold sa; omega
theorem sa_minR (x y z : Nat) : sa z (min x y) = min (sa z x) (sa z y) := by unfold sa; omega
theorem sa_mnL (k : Nat) (f : Nat → Nat) (a : Nat) : sa (mn k f) a = mn k (fun i => sa (f i) a) := by
  induction k with
  | zero => unfold mn sa; omega
  | succ k ih => unfold mn; rw [sa_minL, ih]
theorem sa_mnR (k : Nat) (f : Nat → Nat) (a : Nat) : sa a (mn k f) = mn k (fun i => sa a (f i)) := by
  rw [sa_comm, sa_mnL]
  exact mn_congr (fun i _ => sa_comm _ _)
theorem mn_cap (k : Nat) (f : Nat → Nat) : mn k (fun i => min 1000000 (f i)) = mn k f := by
  induction k with
  | zero => rfl
  | succ k ih => unfold mn; rw [ih]; have := mn_far k f; dsimp only; omega
theorem mn_swap (k l : Nat) (f : Nat → Nat → Nat) : mn k (fun i => mn l (fun j => f i j)) = mn l (fun j => mn k (fun i => f i j)) := by
  induction k with
  | zero =>
    show 1000000 = mn l (fun _ => 1000000)
    rw [mn_const_far l (fun _ _ => Nat.le_refl _)]
  | succ k ih =>
    show min (mn k (fun i => mn l (fun j => f i j))) (mn l (fun j => f k j)) = mn l (fun j => min (mn k (fun i => f i j)) (f k j))
    rw [ih, mn_min]
/-- what is heard, said and allowed: frames, costs, stay, words, ways, lengths, sounds, joints (0: the edge; w + 1: word w) -/
abbrev PD : Type := Nat × (Nat → Nat → Nat) × Nat × Nat × (Nat → Nat) × (Nat → Nat → Nat) × (Nat → Nat → Nat → Nat) × (Nat → Nat → Nat)
def dn (d : PD) : Nat := d.1
def dc (d : PD) : Nat → Nat → Nat := d.2.1
def dst (d : PD) : Nat := d.2.2.1
def dW (d : PD) : Nat := d.2.2.2.1
def dwy (d : PD) : Nat → Nat := d.2.2.2.2.1
def dln (d : PD) : Nat → Nat → Nat := d.2.2.2.2.2.1
def dsd (d : PD) : Nat → Nat → Nat → Nat := d.2.2.2.2.2.2.1
def dJ (d : PD) : Nat → Nat → Nat := d.2.2.2.2.2.2.2
/-- the cost behind a word with m frames left, over a table of m frames -/
def BEf (d : PD) (on : Nat → Nat → Nat → Nat) (m a : Nat) : Nat := if m = 0 then dJ d a 0 else mn (dW d) (fun x => dJ d a (x + 1) + mn (dwy d x) (fun v => on x v 0))
/-- from behind: the least for the last m frames, sound k of way v of word w on the first of them -/
def ON (d : PD) : Nat → Nat → Nat → Nat → Nat
  | 0, _, _, _ => 1000000
  | m + 1, w, v, k => min 1000000 (min (if k + 1 < dln d w v then ON d m w v (k + 1) else BEf d (ON d m) m (w + 1)) (ON d m w v k + dst d) + dc d (dsd d w v k) (dn d - (m + 1)))
def AH (d : PD) (m w : Nat) : Nat := mn (dwy d w) (fun v => ON d m w v 0)
def BE (d : PD) (m a : Nat) : Nat := BEf d (ON d m) m a
theorem BE_0 (d : PD) (a : Nat) : BE d 0 a = dJ d a 0 := rfl
theorem BE_s (d : PD) (m a : Nat) : BE d (m + 1) a = mn (dW d) (fun x => dJ d a (x + 1) + AH d (m + 1) x) := by
  unfold BE BEf
  rw [if_neg (by omega)]
  rfl
theorem ON_far (d : PD) (m w v k : Nat) : ON d m w v k ≤ 1000000 := by
  cases m with
  | zero => exact Nat.le_refl _
  | succ m => unfold ON; omega
theorem ON_s (d : PD) (m w v k : Nat) : ON d (m + 1) w v k = sa (min (if k + 1 < dln d w v then ON d m w v (k + 1) else BE d m (w + 1)) (ON d m w v k + dst d)) (dc d (dsd d w v k) (dn d - (m + 1))) := rfl
/-- from the front: t frames from frame i on, the first s sounds of a way -/
def FW (d : PD) (w v i : Nat) : Nat → Nat → Nat
  | 0, s => if s = 0 then 0 else 1000000
  | _ + 1, 0 => 1000000
  | t + 1, s + 1 => min 1000000 (min (FW d w v i t (s + 1) + dst d) (FW d w v i t s) + dc d (dsd d w v s) (i + t))
def OF (d : PD) (w i t : Nat) : Nat := mn (dwy d w) (fun v => FW d w v i t (dln d w v))
theorem FW_s (d : PD) (w v i t s : Nat) : FW d w v i (t + 1) (s + 1) = sa (min (FW d w v i t (s + 1) + dst d) (FW d w v i t s)) (dc d (dsd d w v s) (i + t)) := rfl
theorem FW_far (d : PD) (w v i t s : Nat) : FW d w v i t s ≤ 1000000 := by
  cases t with
  | zero => unfold FW; split <;> omega
  | succ t => cases s with
    | zero => exact Nat.le_refl _
    | succ s => rw [FW_s]; exact sa_far _ _
theorem K1_step (d : PD) (w v i m t : Nat) (hl : 0 < dln d w v) (hi : i + t = dn d - (m + 1)) :
    mn (dln d w v) (fun s => sa (min (FW d w v i t s) (FW d w v i t (s + 1) + dst d)) (ON d (m + 1) w v s)) =
    min (sa (FW d w v i (t + 1) (dln d w v)) (BE d m (w + 1))) (mn (dln d w v) (fun s => sa (min (FW d w v i (t + 1) s) (FW d w v i (t + 1) (s + 1) + dst d)) (ON d m w v s))) := by
  have e1 : ∀ s, sa (min (FW d w v i t s) (FW d w v i t (s + 1) + dst d)) (ON d (m + 1) w v s) = min (sa (FW d w v i (t + 1) (s + 1)) (if s + 1 < dln d w v then ON d m w v (s + 1) else BE d m (w + 1))) (sa (FW d w v i (t + 1) (s + 1) + dst d) (ON d m w v s)) := by
    intro s
    rw [ON_s, FW_s, hi]
    generalize (if s + 1 < dln d w v then ON d m w v (s + 1) else BE d m (w + 1)) = g
    unfold sa
    omega
  rw [mn_congr (fun s _ => e1 s), mn_min]
  have e2 : ∀ s, sa (min (FW d w v i (t + 1) s) (FW d w v i (t + 1) (s + 1) + dst d)) (ON d m w v s) = min (sa (FW d w v i (t + 1) s) (ON d m w v s)) (sa (FW d w v i (t + 1) (s + 1) + dst d) (ON d m w v s)) := fun s => sa_minL _ _ _
  rw [mn_congr (f := fun s => sa (min (FW d w v i (t + 1) s) (FW d w v i (t + 1) (s + 1) + dst d)) (ON d m w v s)) (fun s _ => e2 s), mn_min]
  obtain ⟨n, hn⟩ : ∃ n, dln d w v = n + 1 := ⟨dln d w v - 1, by omega⟩
  have e3 : mn (dln d w v) (fun s => sa (FW d w v i (t + 1) (s + 1)) (if s + 1 < dln d w v then ON d m w v (s + 1) else BE d m (w + 1))) = min (mn n (fun s => sa (FW d w v i (t + 1) (s + 1)) (ON d m w v (s + 1)))) (sa (FW d w v i (t + 1) (dln d w v)) (BE d m (w + 1))) := by
    rw [hn]
    show min (mn n _) _ = _
    dsimp only
    rw [if_neg (show ¬ n + 1 < n + 1 by omega)]
    congr 1
    exact mn_congr (fun s hs => by rw [if_pos (by omega)])
  have e4 : mn (dln d w v) (fun s => sa (FW d w v i (t + 1) s) (ON d m w v s)) = mn n (fun s => sa (FW d w v i (t + 1) (s + 1)) (ON d m w v (s + 1))) := by
    rw [hn, mn_shift]
    have : sa (FW d w v i (t + 1) 0) (ON d m w v 0) = 1000000 := by
      show sa 1000000 _ = _
      unfold sa; omega
    rw [this]
    have := mn_far n (fun s => sa (FW d w v i (t + 1) (s + 1)) (ON d m w v (s + 1)))
    omega
  rw [e3, e4]
  omega
theorem K1_way (d : PD) (w v i m0 : Nat) (hl : 0 < dln d w v) (hi : i + m0 = dn d) : ∀ t, t ≤ m0 → ON d m0 w v 0 = min (mn t (fun t1 => sa (FW d w v i (t1 + 1) (dln d w v)) (BE d (m0 - (t1 + 1)) (w + 1)))) (mn (dln d w v) (fun s => sa (min (FW d w v i t s) (FW d w v i t (s + 1) + dst d)) (ON d (m0 - t) w v s))) := by
  intro t
  induction t with
  | zero =>
    intro _
    obtain ⟨n, hn⟩ : ∃ n, dln d w v = n + 1 := ⟨dln d w v - 1, by omega⟩
    rw [hn, mn_shift, Nat.sub_zero]
    have h0 := ON_far d m0 w v 0
    have e1 : sa (min (FW d w v i 0 0) (FW d w v i 0 (0 + 1) + dst d)) (ON d m0 w v 0) = ON d m0 w v 0 := by
      show sa (min 0 _) _ = _
      unfold sa; omega
    have e2 : mn n (fun s => sa (min (FW d w v i 0 (s + 1)) (FW d w v i 0 (s + 1 + 1) + dst d)) (ON d m0 w v (s + 1))) = 1000000 := by
      refine mn_const_far n (fun s _ => ?_)
      show 1000000 ≤ sa (min 1000000 (1000000 + dst d)) _
      unfold sa; omega
    rw [e1, e2]
    show _ = min 1000000 _
    omega
  | succ t ih =>
    intro ht
    rw [ih (by omega)]
    have em : m0 - t = (m0 - (t + 1)) + 1 := by omega
    rw [em, K1_step d w v i (m0 - (t + 1)) t hl (by omega)]
    show _ = min (min (mn t _) _) _
    dsimp only
    omega
theorem K1 (d : PD) (w i m0 : Nat) (hl : ∀ v, v < dwy d w → 0 < dln d w v) (hi : i + m0 = dn d) : AH d m0 w = mn m0 (fun t => sa (OF d w i (t + 1)) (BE d (m0 - (t + 1)) (w + 1))) := by
  unfold AH
  have e : ∀ v, v < dwy d w → ON d m0 w v 0 = mn m0 (fun t => sa (FW d w v i (t + 1) (dln d w v)) (BE d (m0 - (t + 1)) (w + 1))) := by
    intro v hv
    have := K1_way d w v i m0 (hl v hv) hi m0 (Nat.le_refl _)
    rw [this, Nat.sub_self]
    have e2 : mn (dln d w v) (fun s => sa (min (FW d w v i m0 s) (FW d w v i m0 (s + 1) + dst d)) (ON d 0 w v s)) = 1000000 := mn_const_far _ (fun s _ => by show 1000000 ≤ sa _ 1000000; unfold sa; omega)
    rw [e2]
    have := mn_far m0 (fun t1 => sa (FW d w v i (t1 + 1) (dln d w v)) (BE d (m0 - (t1 + 1)) (w + 1)))
    omega
  rw [mn_congr e, mn_swap]
  refine mn_congr (fun t _ => ?_)
  unfold OF
  rw [sa_mnL]

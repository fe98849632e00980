/-! SAYING from many starts -/
/-- paid, behind t frames from frame fr on: sound k on the last of them; S f: what has been paid if the word starts with frame f -/
def MF (d : PD) (w v : Nat) (S : Nat → Nat) (fr : Nat) : Nat → Nat → Nat
  | 0, _ => 1000000
  | t + 1, k => min 1000000 (min (if k = 0 then S (fr + t) else MF d w v S fr t (k - 1)) (MF d w v S fr t k + dst d) + dc d (dsd d w v k) (fr + t))
theorem MF_s (d : PD) (w v : Nat) (S : Nat → Nat) (fr t k : Nat) : MF d w v S fr (t + 1) k = sa (min (if k = 0 then S (fr + t) else MF d w v S fr t (k - 1)) (MF d w v S fr t k + dst d)) (dc d (dsd d w v k) (fr + t)) := rfl
theorem MF_far (d : PD) (w v : Nat) (S : Nat → Nat) (fr t k : Nat) : MF d w v S fr t k ≤ 1000000 := by
  cases t with
  | zero => exact Nat.le_refl _
  | succ t => rw [MF_s]; exact sa_far _ _
theorem mn_add_cap (k : Nat) (f : Nat → Nat) (a b : Nat) : sa (mn k f + a) b = mn k (fun i => sa (f i + a) b) := by
  induction k with
  | zero => show sa (1000000 + a) b = 1000000; unfold sa; omega
  | succ k ih =>
    show sa (min (mn k f) (f k) + a) b = min (mn k (fun i => sa (f i + a) b)) (sa (f k + a) b)
    rw [← ih]
    unfold sa
    omega
theorem K2 (d : PD) (w v : Nat) (S : Nat → Nat) (fr : Nat) (hS : ∀ f, S f ≤ 1000000) : ∀ t k, MF d w v S fr t k = mn t (fun u => sa (S (fr + u)) (FW d w v (fr + u) (t - u) (k + 1))) := by
  intro t
  induction t with
  | zero => intro k; rfl
  | succ t ih =>
    intro k
    have step : ∀ u, u < t → sa (S (fr + u)) (FW d w v (fr + u) (t + 1 - u) (k + 1)) = sa (min (sa (S (fr + u)) (FW d w v (fr + u) (t - u) k)) (sa (S (fr + u)) (FW d w v (fr + u) (t - u) (k + 1)) + dst d)) (dc d (dsd d w v k) (fr + t)) := by
      intro u hu
      rw [show t + 1 - u = (t - u) + 1 by omega, FW_s, show fr + u + (t - u) = fr + t by omega]
      have h1 := FW_far d w v (fr + u) (t - u) k
      have h2 := FW_far d w v (fr + u) (t - u) (k + 1)
      have h3 := hS (fr + u)
      generalize FW d w v (fr + u) (t - u) k = x at *
      generalize FW d w v (fr + u) (t - u) (k + 1) = y at *
      unfold sa
      omega
    have last : sa (S (fr + t)) (FW d w v (fr + t) (t + 1 - t) (k + 1)) = sa (if k = 0 then S (fr + t) else 1000000) (dc d (dsd d w v k) (fr + t)) := by
      rw [show t + 1 - t = 0 + 1 by omega, FW_s, show fr + t + 0 = fr + t from rfl]
      have h3 := hS (fr + t)
      by_cases hk : k = 0
      · subst hk
        rw [if_pos rfl]
        have e1 : FW d w v (fr + t) 0 0 = 0 := if_pos rfl
        have e2 : FW d w v (fr + t) 0 (0 + 1) = 1000000 := if_neg (by omega)
        rw [e1, e2]
        unfold sa
        omega
      · rw [if_neg hk]
        have e1 : FW d w v (fr + t) 0 k = 1000000 := if_neg hk
        have e2 : FW d w v (fr + t) 0 (k + 1) = 1000000 := if_neg (by omega)
        rw [e1, e2]
        unfold sa
        omega
    show _ = min (mn t (fun u => sa (S (fr + u)) (FW d w v (fr + u) (t + 1 - u) (k + 1)))) (sa (S (fr + t)) (FW d w v (fr + t) (t + 1 - t) (k + 1)))
    rw [mn_congr step, last, MF_s, ih k]
    have hc : mn t (fun u => sa (min (sa (S (fr + u)) (FW d w v (fr + u) (t - u) k)) (sa (S (fr + u)) (FW d w v (fr + u) (t - u) (k + 1)) + dst d)) (dc d (dsd d w v k) (fr + t))) = min (mn t (fun u => sa (sa (S (fr + u)) (FW d w v (fr + u) (t - u) k)) (dc d (dsd d w v k) (fr + t)))) (mn t (fun u => sa (sa (S (fr + u)) (FW d w v (fr + u) (t - u) (k + 1)) + dst d) (dc d (dsd d w v k) (fr + t)))) := by
      rw [← mn_min]
      exact mn_congr (fun u _ => sa_minL _ _ _)
    rw [hc, ← mn_add_cap, ← sa_mnL]
    by_cases hk : k = 0
    · subst hk
      rw [if_pos rfl, if_pos rfl]
      have e0 : mn t (fun u => sa (S (fr + u)) (FW d w v (fr + u) (t - u) 0)) = 1000000 := mn_const_far t (fun u hu => by
        have e : FW d w v (fr + u) (t - u) 0 = 1000000 := by
          rw [show t - u = (t - u - 1) + 1 by omega]; rfl
        rw [e]
        unfold sa
        omega)
      rw [e0]
      generalize mn t (fun u => sa (S (fr + u)) (FW d w v (fr + u) (t - u) (0 + 1))) = x
      unfold sa
      omega
    · rw [if_neg hk, if_neg hk, ih (k - 1), show k - 1 + 1 = k by omega]
      generalize mn t (fun u => sa (S (fr + u)) (FW d w v (fr + u) (t - u) k)) = x
      generalize mn t (fun u => sa (S (fr + u)) (FW d w v (fr + u) (t - u) (k + 1))) = y
      unfold sa
      omega

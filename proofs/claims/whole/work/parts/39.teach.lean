/-! TEACH: the cells of the frames that are not lost, in their order -/
def cl (at_ : Nat → Option Nat) : Nat → List Nat
  | 0 => []
  | f + 1 => match at_ f with
    | some c => cl at_ f ++ [c]
    | none => cl at_ f
theorem cl_none {at_ : Nat → Option Nat} {f : Nat} (h : at_ f = none) : cl at_ (f + 1) = cl at_ f := by
  show (match at_ f with | some c => cl at_ f ++ [c] | none => cl at_ f) = _
  rw [h]
theorem cl_some {at_ : Nat → Option Nat} {f c : Nat} (h : at_ f = some c) : cl at_ (f + 1) = cl at_ f ++ [c] := by
  show (match at_ f with | some c => cl at_ f ++ [c] | none => cl at_ f) = _
  rw [h]
theorem cl_len (at_ : Nat → Option Nat) (f : Nat) : (cl at_ f).length ≤ f := by
  induction f with
  | zero => exact Nat.le_refl _
  | succ f ih =>
    cases h : at_ f with
    | none => rw [cl_none h]; omega
    | some c => rw [cl_some h, List.length_append, List.length_singleton]; omega
theorem cl_lt {at_ : Nat → Option Nat} {n : Nat} (h : ∀ f c, f < n → at_ f = some c → c < 48) : ∀ f, f ≤ n → ∀ c ∈ cl at_ f, c < 48 := by
  intro f
  induction f with
  | zero => intro _ c hc; exact absurd hc List.not_mem_nil
  | succ f ih =>
    intro hf c hc
    cases hh : at_ f with
    | none => rw [cl_none hh] at hc; exact ih (by omega) c hc
    | some d =>
      rw [cl_some hh] at hc
      rcases List.mem_append.mp hc with q | q
      · exact ih (by omega) c q
      · rw [List.mem_singleton.mp q]; exact h f d (by omega) hh
/-- how often c stands in a list -/
def ctl (c : Nat) : List Nat → Nat
  | [] => 0
  | a :: l => (if a = c then 1 else 0) + ctl c l
theorem ctl_app (c : Nat) (l m : List Nat) : ctl c (l ++ m) = ctl c l + ctl c m := by
  induction l with
  | nil => show ctl c m = 0 + ctl c m; omega
  | cons a l ih => show (if a = c then 1 else 0) + ctl c (l ++ m) = _; rw [ih]; show _ = (if a = c then 1 else 0) + ctl c l + ctl c m; omega
theorem ctl_one (c d : Nat) : ctl c [d] = if d = c then 1 else 0 := by show (if d = c then 1 else 0) + 0 = _; omega
theorem ctl_le (c : Nat) (l : List Nat) : ctl c l ≤ l.length := by
  induction l with
  | nil => exact Nat.le_refl _
  | cons a l ih => show (if a = c then 1 else 0) + ctl c l ≤ l.length + 1; split <;> omega
theorem hc_ctl {g : Nat → Int32} : ∀ (l : List Nat), (∀ q, q < l.length → g q = nI (l.getD q 0)) → (∀ c ∈ l, c < 48) → ∀ c, c < 48 → hc g (nI c) l.length = ctl c l := by
  have key : ∀ m (l : List Nat), m ≤ l.length → (∀ q, q < l.length → g q = nI (l.getD q 0)) → (∀ c ∈ l, c < 48) → ∀ c, c < 48 → hc g (nI c) m = ctl c (l.take m) := by
    intro m l
    induction m with
    | zero => intro _ _ _ c _; rw [List.take_zero]; rfl
    | succ m ih =>
      intro hm hg hl c hc1
      have hm2 : m < l.length := by omega
      show hc g (nI c) m + (if g m = nI c then 1 else 0) = _
      rw [ih (by omega) hg hl c hc1, List.take_succ_eq_append_getElem hm2, ctl_app, ctl_one, hg m hm2]
      have e : l.getD m 0 = l[m] := by simp [List.getD, hm2]
      rw [e]
      have hlm := hl _ (List.getElem_mem hm2)
      by_cases z : l[m] = c
      · rw [if_pos z, if_pos (by rw [z])]
      · rw [if_neg z, if_neg (fun q => z ((nI_eq (by omega) (by omega)).mp q))]
  intro l hg hl c hc1
  rw [key l.length l (Nat.le_refl _) hg hl c hc1, List.take_length]
theorem ctl_sum8 (s : Nat) (l : List Nat) : sm (fun j => ctl (8 * s + j) l) 8 ≤ l.length := by
  induction l with
  | nil => exact (show sm (fun _ => 0) 8 ≤ 0 by decide)
  | cons a l ih =>
    have e : sm (fun j => ctl (8 * s + j) (a :: l)) 8 = sm (fun j => (if a = 8 * s + j then 1 else 0) + ctl (8 * s + j) l) 8 := rfl
    rw [e, sm_add]
    have h1 : sm (fun j => if a = 8 * s + j then 1 else 0) 8 ≤ 1 := by
      by_cases z : 8 * s ≤ a ∧ a < 8 * s + 8
      · have : sm (fun j => if a = 8 * s + j then 1 else 0) 8 = sm (fun j => if j = a - 8 * s then 1 else 0) 8 := sm_congr (fun j hj => by
          by_cases y : j = a - 8 * s
          · rw [if_pos y, if_pos (by omega)]
          · rw [if_neg y, if_neg (by omega)])
        rw [this, sm_one (by omega)]
        exact Nat.le_refl _
      · have : sm (fun j => if a = 8 * s + j then 1 else 0) 8 = sm (fun _ => 0) 8 := sm_congr (fun j hj => if_neg (by omega))
        rw [this]
        decide
    show _ ≤ l.length + 1
    omega

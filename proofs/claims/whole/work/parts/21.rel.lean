/-! THE RELATION of the class's cells and the reference's -/
/-- the row's search -/
def NXf (d : PD) (P : Nat → Nat) (a w j : Nat) : Nat := mn j (fun i => sa (sa (P i) (dJ d a (w + 1))) (OF d w i (j - i)))
def hit (d : PD) (L : Nat) (P : Nat → Nat) (a w : Nat) : Bool := (List.range (dn d + 1)).any (fun j => decide (NXf d P a w j + BE d (dn d - j) (w + 1) = L))
def RWs (d : PD) (L : Nat) : Nat → (Nat → Nat) → Nat → List Nat
  | 0, _, _ => []
  | f + 1, P, a => if a ≠ 0 ∧ P (dn d) + dJ d a 0 = L then [] else match (List.range (dW d)).find? (hit d L P a) with
    | some w => w :: RWs d L f (NXf d P a w) (w + 1)
    | none => []
def LSd (d : PD) : Nat := if dn d = 0 then 1000000 else BE d (dn d) 0
def P0 (i : Nat) : Nat := if i = 0 then 0 else 1000000
def ROW (d : PD) : List Nat := RWs d (LSd d) (dn d) P0 0
def dat (mem : TMem) : PD := ((mem 1 2).toNatClampNeg, fun s f => if s < 6 then (if mem 2 f = -1 then 10 else (mem (4 + s) (mem 2 f).toNatClampNeg).toNatClampNeg) else 0, (mem 1 3).toNatClampNeg, (mem 10 4).toNatClampNeg, fun w => (mem 29 w).toNatClampNeg, fun w v => (mem 28 (2 * w + v)).toNatClampNeg, fun w v k => if 2 * w + v < 16 then (mem (12 + (2 * w + v)) k).toNatClampNeg else 0, fun a b => if a < 9 then (if mem (31 + a) b = -1 then 1000000 else (mem (31 + a) b).toNatClampNeg) else 0)
def R_fr (mem : TMem) (n : Nat) : Prop := n ≤ 40 ∧ mem 1 2 = nI n ∧ mem 187 0 = nI n
def R_mk (mem : TMem) (n : Nat) : Prop := ∀ f, f < n → mem 188 f = mem 2 f ∧ (mem 2 f = -1 ∨ ∃ j, j < 8 ∧ mem 2 f = nI j)
def R_co (mem : TMem) : Prop := ∀ s j, s < 6 → j < 8 → mem 189 (8 * s + j) = mem (4 + s) j ∧ ∃ c, c ≤ 50 ∧ mem (4 + s) j = nI c
def R_st (mem : TMem) : Prop := ∃ c, c ≤ 20 ∧ mem 1 3 = nI c ∧ mem 187 3 = nI c
def R_wd (mem : TMem) (W : Nat) : Prop := W ≤ 8 ∧ mem 10 4 = nI W ∧ mem 187 4 = nI W
def R_wy (mem : TMem) (W : Nat) : Prop := (∀ w, w < W → ∃ v, 1 ≤ v ∧ v ≤ 2 ∧ mem 29 w = nI v ∧ mem 190 w = nI v ∧ (∀ u, u < v → ∃ ln, 1 ≤ ln ∧ ln ≤ 4 ∧ mem 28 (2 * w + u) = nI ln ∧ mem 191 (2 * w + u) = nI ln ∧ ∀ k, k < ln → ∃ s, s < 6 ∧ mem (12 + (2 * w + u)) k = nI s ∧ mem 192 (4 * (2 * w + u) + k) = nI s) ∧ (∀ u, u < 2 → v ≤ u → mem 28 (2 * w + u) = 0)) ∧ (∀ w, w < 8 → W ≤ w → mem 29 w = 0 ∧ mem 28 (2 * w) = 0 ∧ mem 28 (2 * w + 1) = 0)
def gi (a : Nat) : Nat := if a = 0 then 8 else a - 1
def R_gr (mem : TMem) : Prop := ∀ a b, a < 9 → b < 9 → mem 193 (9 * gi a + gi b) = mem (31 + a) b ∧ (mem (31 + a) b = -1 ∨ ∃ c, c ≤ 100 ∧ mem (31 + a) b = nI c)
def R_to (mem : TMem) (W T : Nat) : Prop := T ≤ 12 ∧ mem 106 1 = nI T ∧ mem 187 9 = nI T ∧ ∀ i, i < T → ∃ w, w < W ∧ mem 107 i = nI w ∧ mem 194 i = nI w
def R_la (mem : TMem) (n : Nat) : Prop := (mem 108 5 = 0 ∧ mem 187 11 = 0) ∨ (mem 108 5 = 1 ∧ mem 187 11 = 1 ∧ ∀ f, f < n → ∃ sl s, sl < 96 ∧ s < 6 ∧ mem 153 f = nI sl ∧ mem 109 sl = nI s ∧ mem 195 f = nI s ∧ mem 196 f = nI (sl / 8) ∧ mem 197 f = nI (sl % 8 / 4))
/-- how often x stands among the first m of f -/
def hc (f : Nat → Int32) (x : Int32) : Nat → Nat
  | 0 => 0
  | m + 1 => hc f x m + if f m = x then 1 else 0
def sm (f : Nat → Nat) : Nat → Nat
  | 0 => 0
  | m + 1 => sm f m + f m
def R_kp (mem : TMem) (B : Nat) : Prop := ∃ K nx, ∃ many : Nat → Nat, ∃ base : Nat → Nat, K ≤ 16 ∧ nx < 16 ∧ mem 156 3 = nI K ∧ mem 187 16 = nI K ∧ mem 156 2 = nI nx ∧
  (∀ i, i < K → many i ≤ 40 ∧ mem 199 i = nI (many i) ∧ (∀ q, q < many i → ∃ c, c < 48 ∧ mem 200 (40 * i + q) = nI c) ∧ ∀ c, c < 48 → mem (165 + (nx + 16 - K + i) % 16) c = nI (hc (fun q => mem 200 (40 * i + q)) (nI c) (many i))) ∧
  (∀ s j, s < 6 → j < 8 → mem 198 (8 * s + j) = mem (158 + s) j ∧ mem (158 + s) j = nI (base (8 * s + j) + sm (fun i => hc (fun q => mem 200 (40 * i + q)) (nI (8 * s + j)) (many i)) K)) ∧
  (∀ s, s < 6 → sm (fun j => base (8 * s + j) + sm (fun i => hc (fun q => mem 200 (40 * i + q)) (nI (8 * s + j)) (many i)) K) 8 ≤ B)
def R_ea (mem : TMem) : Prop := ∃ a b c, 1 ≤ a ∧ a ≤ 7 ∧ 1 ≤ b ∧ b ≤ 5 ∧ 1 ≤ c ∧ c ≤ 9 ∧ mem 186 0 = nI a ∧ mem 187 19 = nI a ∧ mem 186 1 = nI b ∧ mem 187 20 = nI b ∧ mem 186 2 = nI c ∧ mem 187 21 = nI c
def R_ca (mem : TMem) : Prop := mem 40 6 = 0 ∨ (mem 40 6 = 1 ∧ mem 40 5 = nI (LSd (dat mem)) ∧ (LSd (dat mem) < 1000000 → (mem 104 1 = nI (ROW (dat mem)).length ∧ 1 ≤ (ROW (dat mem)).length ∧ (ROW (dat mem)).length ≤ 40 ∧ (∀ i, i < (ROW (dat mem)).length → (ROW (dat mem)).getD i 0 < dW (dat mem) ∧ mem 105 i = nI ((ROW (dat mem)).getD i 0)) ∧ ∀ w, w < dW (dat mem) → mem 42 w = nI (AH (dat mem) (dn (dat mem)) w))))
def INV (k : Nat) (mem : TMem) : Prop := ∃ n W T, R_fr mem n ∧ R_mk mem n ∧ R_co mem ∧ R_st mem ∧ R_wd mem W ∧ R_wy mem W ∧ R_gr mem ∧ R_to mem W T ∧ R_la mem n ∧ R_kp mem (40 * k) ∧ R_ea mem ∧ R_ca mem
section OF_
variable {mem m2 : TMem} {n W T B : Nat}
theorem R_fr.of (h : R_fr mem n) (h1 : m2 1 2 = mem 1 2) (h2 : m2 187 0 = mem 187 0) : R_fr m2 n := by unfold R_fr; rw [h1, h2]; exact h
theorem R_mk.of (h : R_mk mem n) (h1 : m2 2 = mem 2) (h2 : m2 188 = mem 188) : R_mk m2 n := by unfold R_mk; rw [h1, h2]; exact h
theorem R_co.of (h : R_co mem) (h1 : m2 189 = mem 189) (h2 : ∀ s, s < 6 → m2 (4 + s) = mem (4 + s)) : R_co m2 := fun s j hs hj => by rw [h1, h2 s hs]; exact h s j hs hj
theorem R_st.of (h : R_st mem) (h1 : m2 1 3 = mem 1 3) (h2 : m2 187 3 = mem 187 3) : R_st m2 := by unfold R_st; rw [h1, h2]; exact h
theorem R_wd.of (h : R_wd mem W) (h1 : m2 10 4 = mem 10 4) (h2 : m2 187 4 = mem 187 4) : R_wd m2 W := by unfold R_wd; rw [h1, h2]; exact h
theorem R_wy.of (hW : W ≤ 8) (h : R_wy mem W) (h1 : m2 29 = mem 29) (h2 : m2 190 = mem 190) (h3 : m2 28 = mem 28) (h4 : m2 191 = mem 191) (h5 : m2 192 = mem 192) (h6 : ∀ s, s < 16 → m2 (12 + s) = mem (12 + s)) : R_wy m2 W := by
  unfold R_wy
  rw [h1, h2, h3, h4, h5]
  refine ⟨fun w hw => ?_, h.2⟩
  obtain ⟨v, a1, a2, a3, a4, a5, a6⟩ := h.1 w hw
  refine ⟨v, a1, a2, a3, a4, fun u hu => ?_, a6⟩
  obtain ⟨ln, b1, b2, b3, b4, b5⟩ := a5 u hu
  exact ⟨ln, b1, b2, b3, b4, fun k hk => by rw [h6 (2 * w + u) (by omega)]; exact b5 k hk⟩
theorem R_gr.of (h : R_gr mem) (h1 : m2 193 = mem 193) (h2 : ∀ s, s < 9 → m2 (31 + s) = mem (31 + s)) : R_gr m2 := fun a b ha hb => by rw [h1, h2 a ha]; exact h a b ha hb
theorem R_to.of (h : R_to mem W T) (h1 : m2 106 1 = mem 106 1) (h2 : m2 187 9 = mem 187 9) (h3 : m2 107 = mem 107) (h4 : m2 194 = mem 194) : R_to m2 W T := by unfold R_to; rw [h1, h2, h3, h4]; exact h
theorem R_la.of (h : R_la mem n) (h1 : m2 108 5 = mem 108 5) (h2 : m2 187 11 = mem 187 11) (h3 : m2 153 = mem 153) (h4 : m2 109 = mem 109) (h5 : m2 195 = mem 195) (h6 : m2 196 = mem 196) (h7 : m2 197 = mem 197) : R_la m2 n := by unfold R_la; rw [h1, h2, h3, h4, h5, h6, h7]; exact h
theorem R_la.no (h1 : m2 108 5 = 0) (h2 : m2 187 11 = 0) : R_la m2 n := Or.inl ⟨h1, h2⟩
theorem R_kp.of (h : R_kp mem B) (h1 : m2 156 3 = mem 156 3) (h2 : m2 187 16 = mem 187 16) (h3 : m2 156 2 = mem 156 2) (h4 : m2 199 = mem 199) (h5 : m2 200 = mem 200) (h6 : m2 198 = mem 198) (h7 : ∀ s, s < 6 → m2 (158 + s) = mem (158 + s)) (h8 : ∀ s, s < 16 → m2 (165 + s) = mem (165 + s)) : R_kp m2 B := by
  obtain ⟨K, nx, many, base, a1, a2, a3, a4, a5, a6, a7, a8⟩ := h
  refine ⟨K, nx, many, base, a1, a2, by rw [h1]; exact a3, by rw [h2]; exact a4, by rw [h3]; exact a5, fun i hi => ?_, fun s j hs hj => ?_, ?_⟩
  · rw [h4, h5, h8 _ (Nat.mod_lt _ (by decide))]
    exact a6 i hi
  · rw [h5, h6, h7 s hs]
    exact a7 s j hs hj
  · rw [h5]
    exact a8
theorem R_kp.up {B2 : Nat} (h : R_kp mem B) (hB : B ≤ B2) : R_kp mem B2 := by
  obtain ⟨K, nx, many, base, a1, a2, a3, a4, a5, a6, a7, a8⟩ := h
  exact ⟨K, nx, many, base, a1, a2, a3, a4, a5, a6, a7, fun s hs => Nat.le_trans (a8 s hs) hB⟩
theorem R_ea.of (h : R_ea mem) (h1 : m2 186 = mem 186) (h2 : m2 187 19 = mem 187 19) (h3 : m2 187 20 = mem 187 20) (h4 : m2 187 21 = mem 187 21) : R_ea m2 := by unfold R_ea; rw [h1, h2, h3, h4]; exact h
theorem R_ca.no (h : m2 40 6 = 0) : R_ca m2 := Or.inl h
theorem dat_of (h1 : m2 1 2 = mem 1 2) (h2 : m2 1 3 = mem 1 3) (h3 : m2 10 4 = mem 10 4) (h4 : m2 2 = mem 2) (h5 : ∀ s, s < 6 → m2 (4 + s) = mem (4 + s)) (h6 : m2 29 = mem 29) (h7 : m2 28 = mem 28) (h8 : ∀ s, s < 16 → m2 (12 + s) = mem (12 + s)) (h9 : ∀ s, s < 9 → m2 (31 + s) = mem (31 + s)) : dat m2 = dat mem := by
  have e1 : (fun s f => if s < 6 then (if m2 2 f = -1 then 10 else (m2 (4 + s) (m2 2 f).toNatClampNeg).toNatClampNeg) else 0) = fun s f => if s < 6 then (if mem 2 f = -1 then 10 else (mem (4 + s) (mem 2 f).toNatClampNeg).toNatClampNeg) else 0 := by
    funext s f
    by_cases h : s < 6
    · rw [if_pos h, if_pos h, h4, h5 s h]
    · rw [if_neg h, if_neg h]
  have e2 : (fun w v k => if 2 * w + v < 16 then (m2 (12 + (2 * w + v)) k).toNatClampNeg else 0) = fun w v k => if 2 * w + v < 16 then (mem (12 + (2 * w + v)) k).toNatClampNeg else 0 := by
    funext w v k
    by_cases h : 2 * w + v < 16
    · rw [if_pos h, if_pos h, h8 _ h]
    · rw [if_neg h, if_neg h]
  have e3 : (fun a b => if a < 9 then (if m2 (31 + a) b = -1 then 1000000 else (m2 (31 + a) b).toNatClampNeg) else 0) = fun a b => if a < 9 then (if mem (31 + a) b = -1 then 1000000 else (mem (31 + a) b).toNatClampNeg) else 0 := by
    funext a b
    by_cases h : a < 9
    · rw [if_pos h, if_pos h, h9 a h]
    · rw [if_neg h, if_neg h]
  unfold dat
  rw [e1, e2, e3, h1, h2, h3, h6, h7]
theorem R_ca.of (h : R_ca mem) (hd : dat m2 = dat mem) (h1 : m2 40 6 = mem 40 6) (h2 : m2 40 5 = mem 40 5) (h3 : m2 104 1 = mem 104 1) (h4 : m2 105 = mem 105) (h5 : m2 42 = mem 42) : R_ca m2 := by
  unfold R_ca
  rw [hd, h1, h2, h3, h4, h5]
  exact h
end OF_
theorem INV_up (mem : TMem) (k : Nat) (h : INV k mem) : INV (k + 1) mem := by
  obtain ⟨n, W, T, a1, a2, a3, a4, a5, a6, a7, a8, a9, b1, b2, b3⟩ := h
  exact ⟨n, W, T, a1, a2, a3, a4, a5, a6, a7, a8, a9, b1.up (by omega), b2, b3⟩

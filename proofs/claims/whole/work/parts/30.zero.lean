/-! THE START -/
theorem all2 {n m : Nat} {f : Nat → Nat → Bool} (h : (List.range n).all (fun i => (List.range m).all (fun j => f i j)) = true) {i j : Nat} (hi : i < n) (hj : j < m) : f i j = true := List.all_eq_true.mp (List.all_eq_true.mp h i (List.mem_range.mpr hi)) j (List.mem_range.mpr hj)
theorem z_co : (List.range 6).all (fun s => (List.range 8).all (fun j => decide (mem0 189 (8 * s + j) = 25 ∧ mem0 (4 + s) j = 25))) = true := by decide +kernel
theorem z_gr : (List.range 9).all (fun a => (List.range 9).all (fun b => decide (mem0 193 (9 * gi a + gi b) = 0 ∧ mem0 (31 + a) b = 0))) = true := by decide +kernel
theorem z_wy : (List.range 8).all (fun w => (List.range 1).all (fun _ => decide (mem0 29 w = 0 ∧ mem0 28 (2 * w) = 0 ∧ mem0 28 (2 * w + 1) = 0))) = true := by decide +kernel
theorem z_ct : (List.range 6).all (fun s => (List.range 8).all (fun j => decide (mem0 198 (8 * s + j) = 0 ∧ mem0 (158 + s) j = 0))) = true := by decide +kernel
theorem INV0 : INV 0 mem0 := by
  refine ⟨0, 0, 0, ⟨by omega, by decide +kernel, by decide +kernel⟩, fun f hf => absurd hf (Nat.not_lt_zero f), fun s j hs hj => ?_, ⟨1, by omega, by decide +kernel, by decide +kernel⟩, ⟨by omega, by decide +kernel, by decide +kernel⟩, ⟨fun w hw => absurd hw (Nat.not_lt_zero w), fun w hw _ => ?_⟩, fun a b ha hb => ?_, ⟨by omega, by decide +kernel, by decide +kernel, fun i hi => absurd hi (Nat.not_lt_zero i)⟩, Or.inl ⟨by decide +kernel, by decide +kernel⟩, ?_, ⟨1, 2, 3, by omega, by omega, by omega, by omega, by omega, by omega, by decide +kernel, by decide +kernel, by decide +kernel, by decide +kernel, by decide +kernel, by decide +kernel⟩, Or.inl (by decide +kernel)⟩
  · have := of_decide_eq_true (all2 z_co hs hj)
    exact ⟨this.1.trans this.2.symm, 25, by omega, this.2⟩
  · exact of_decide_eq_true (all2 z_wy hw (show 0 < 1 by omega))
  · have := of_decide_eq_true (all2 z_gr ha hb)
    exact ⟨this.1.trans this.2.symm, Or.inr ⟨0, by omega, this.2⟩⟩
  · refine ⟨0, 0, fun _ => 0, fun _ => 0, by omega, by omega, by decide +kernel, by decide +kernel, by decide +kernel, fun i hi => absurd hi (Nat.not_lt_zero i), fun s j hs hj => ?_, fun s hs => ?_⟩
    · have := of_decide_eq_true (all2 z_ct hs hj)
      exact ⟨this.1.trans this.2.symm, this.2⟩
    · show sm (fun _ => 0 + 0) 8 ≤ 40 * 0
      decide

/-! the two new objects are alike -/
def A00 : Nat → Nat := fun i => if i = 2 then 12 else if 7 ≤ i ∧ i < 23 then 4 else if 23 ≤ i ∧ i < 35 ∧ (i - 23) % 2 = 1 then 3 else 0
theorem s0_rM : rM σ0M A00 := by
  unfold rM
  decide +kernel
theorem s0_okA : okA A00 := ⟨by decide +kernel, by decide +kernel, by decide +kernel, by decide +kernel, by decide +kernel, fun k _ hk => (by decide +kernel : ∀ k, k < 6 → A00 (35 + 6 * k + 4) = 0 ∧ A00 (35 + 6 * k + 5) = 0) k hk⟩
theorem s0_rCs : rCs σ0C A00 := by
  unfold rCs
  decide +kernel
theorem s0_rCd : rCd σ0C 41 A00 (σ0M 1 4) := by
  unfold rCd
  decide +kernel
theorem s0_RuM : RuM 0 (fun _ => 0) (fun _ => 0) (fun _ => 0) (fun _ _ => false) σ0M := ⟨by decide, by decide +kernel, fun q h => absurd h (Nat.not_lt_zero q)⟩
theorem s0_RuC : RuC 0 (fun _ => 0) (fun _ => 0) (fun _ _ => false) σ0C := ⟨by decide, by decide +kernel, fun q h => absurd h (Nat.not_lt_zero q)⟩
theorem rel0 : Rel σ0M σ0C := by
  refine ⟨⟨A00, WR (fun _ => 0) (fun _ => 0) (fun _ _ => false) 0, s0_okA, WR_ok (fun q h => absurd h (Nat.not_lt_zero q)), s0_rM, s0_rCs, s0_rCd, s0_RuM.w, s0_RuC.w, by decide +kernel, by decide +kernel⟩, ⟨by decide +kernel, Or.inl (by decide +kernel)⟩, ⟨0, by decide, by decide +kernel, by decide +kernel⟩, by decide +kernel, ⟨0, by decide, by decide +kernel, by decide +kernel⟩, fun i hi => ⟨0, by decide, ?_, ?_⟩, fun k hk => ⟨?_, ?_, ?_, ⟨0, by decide, ?_⟩, ?_⟩, fun k hk => Or.inl ?_, ⟨0, by decide, by decide +kernel, by decide +kernel, fun i h => absurd h (Nat.not_lt_zero i)⟩⟩
  · exact (by decide +kernel : ∀ i, i < 200 → σ0M 9 i = nI 0) i hi
  · exact (by decide +kernel : ∀ i, i < 200 → σ0C 68 i = sx8 (nI 0)) i hi
  · exact (by decide +kernel : ∀ k, k < 4 → σ0C 9 k = σ0M 10 k) k hk
  · exact (by decide +kernel : ∀ k, k < 4 → σ0C 10 k = σ0M 11 k) k hk
  · exact Or.inl ((by decide +kernel : ∀ k, k < 4 → σ0M 10 k = -1) k hk)
  · exact (by decide +kernel : ∀ k, k < 4 → σ0M 11 k = nI 0) k hk
  · exact (by decide +kernel : ∀ k, k < 4 → ∀ i, i < 40 → σ0C (20 + k) i = σ0M 12 (40 * k + i)) k hk
  · exact (by decide +kernel : ∀ k, k < 4 → σ0M 13 k = nI 0 ∧ σ0C 11 k = nI 2) k hk

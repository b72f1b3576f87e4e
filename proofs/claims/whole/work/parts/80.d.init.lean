/-! the start keeps it -/
def isPb (c k : Nat) : Bool := decide ((c = 0 ∧ k < 8) ∨ (c = 1 ∧ k < 4) ∨ (c = 6 ∧ k = 0) ∨ (c = 7 ∧ k < 10) ∨ (8 ≤ c ∧ c < 48 ∧ c % 4 = 0 ∧ k < 3) ∨ (c = 48 ∧ k = 0) ∨ (c = 50 ∧ k < 2) ∨ (c = 55 ∧ k < 5) ∨ (c = 61 ∧ k < 3) ∨ (c = 65 ∧ k < 6) ∨ (c = 72 ∧ (k = 0 ∨ (3 ≤ k ∧ k ≤ 6))) ∨ (c = 79 ∧ ((2 ≤ k ∧ k ≤ 6) ∨ (8 ≤ k ∧ k ≤ 17) ∨ (20 ≤ k ∧ k ≤ 23) ∨ (25 ≤ k ∧ k ≤ 28) ∨ k = 39 ∨ k = 40 ∨ k = 42 ∨ k = 43 ∨ k = 45 ∨ k = 46)))
theorem isPb_of {c k : Nat} (h : isP c k) : isPb c k = true := decide_eq_true h
theorem in_P : ∀ c : Fin 80, ∀ k : Fin 48, isPb c k = true → mg MIn c k = pv c k := by decide +kernel
theorem in_L : ∀ q ∈ lnT, ml MIn q.1 = q.2 := by decide +kernel
theorem in_K : ∀ k : Fin 10, ml MIn (9 + 4 * k) = 10 ∧ ml MIn (10 + 4 * k) = 40 ∧ ml MIn (11 + 4 * k) = 10 := by decide +kernel
theorem in_Sh : Sh MIn := ⟨fun c k h => in_P ⟨c, by unfold isP at h; omega⟩ ⟨k, by unfold isP at h; omega⟩ (isPb_of h), in_L, fun k hk => in_K ⟨k, hk⟩, by rw [iM_N]; decide⟩
theorem in_1 : mg MIn 1 4 = 0 ∧ mg MIn 1 5 = 0 ∧ mg MIn 79 1 = 0 ∧ mg MIn 55 5 = 0 ∧ mg MIn 79 24 = 0 ∧ mg MIn 48 1 = 0 ∧ mg MIn 79 29 = 0 ∧ mg MIn 48 8 = mg MIn 79 35 ∧ mg MIn 48 9 = mg MIn 79 36 ∧ mg MIn 6 1 = 0 ∧ mg MIn 79 7 = 0 := by decide +kernel
theorem in_2 : mg MIn 50 2 = 54 ∧ mg MIn 50 3 = 55 ∧ mg MIn 50 4 = 0 ∧ mg MIn 79 38 = 0 ∧ mg MIn 72 1 = 0 ∧ mg MIn 79 18 = 0 ∧ mg MIn 79 19 = mg MIn 72 2 ∧ mg MIn 64 0 = 0 ∧ mg MIn 72 8 = 79 := by decide +kernel
theorem in_3 : ∀ p : Fin 14, mg MIn 4 p = 0 ∧ mg MIn 82 p = 0 ∧ mg MIn 83 p = 0 := by decide +kernel
theorem in_4 : ∀ p : Fin 14, ∀ i : Fin 10, mg MIn 5 (10 * p + i) = -1 ∧ mg MIn 84 (10 * p + i) = 0 := by decide +kernel
theorem in_5 : ∀ c : Fin 25, 0 ≤ mg MIn 71 c := by decide +kernel
theorem in_INV : INV MIn := by
  obtain ⟨a1, a2, a3, a4, a5, a6, a7, a8, a9, a10, a11⟩ := in_1
  obtain ⟨c1, c2, c3, c4, c5, c6, c7, c8, c9⟩ := in_2
  refine inv_mk (n := 0) (ag := fun _ => 0) (jo := fun _ => 0) (pa := fun _ => 0) (co := fun _ _ => -1) (he := fun _ => false) (w := 0) (wc := fun _ => 0) (wd := fun _ => 0) (wt := fun _ => 0) (tl := 0) (tb := fun _ => 0) (fk := mg MIn 48 8) (fp := mg MIn 48 9) (m := 0) (lb := fun _ => ([], 0, 0, 0, 0, 0, fun _ => 0, fun _ _ => 0)) (ch := fun _ _ => 0) (rl := []) (gl := 0) (gs := mg MIn 72 2) (gr := fun _ => 0) ?_ ?_ ?_
  · exact ⟨⟨by omega, fun _ => (show (0 : Int) ≤ 0 ∧ (0 : Int) ≤ 1000 by decide), fun _ _ => (show (-1 : Int) ≤ -1 ∧ (-1 : Int) ≤ 9 by decide), fun _ _ => rfl⟩, ⟨by omega, fun j hj => absurd hj (Nat.not_lt_zero _)⟩, ⟨by omega, fun _ => (show (0 : Int) ≤ 0 ∧ (0 : Int) ≤ 255 by decide)⟩, ⟨by omega, fun k hk => absurd hk (Nat.not_lt_zero _)⟩, ⟨Nat.zero_le _, Or.inl rfl⟩, by omega⟩
  · refine ⟨in_Sh, ⟨a1, fun p hp => absurd hp (Nat.not_lt_zero _), fun p hp => (in_3 ⟨p, hp⟩).1, fun p i hp hi => (in_4 ⟨p, hp⟩ ⟨i, hi⟩).1, 0, a2, by decide, fun p => Nat.zero_testBit p⟩, ⟨a4, fun j hj => absurd hj (Nat.not_lt_zero _)⟩, ⟨a6, fun j hj => absurd hj (Nat.not_lt_zero _)⟩, ⟨rfl, rfl⟩, ⟨a10, fun k hk => absurd hk (Nat.not_lt_zero _)⟩, ⟨53, 54, Or.inl ⟨rfl, rfl⟩, c1, c2, c3, Nat.zero_le _, fun i hi => absurd hi (Nat.not_lt_zero _)⟩, ⟨c5, rfl, fun i hi => absurd hi (Nat.not_lt_zero _)⟩, c8, fun c hc => in_5 ⟨c, by omega⟩, ⟨78, c9, Or.inl rfl, by rw [iM_N]; decide⟩⟩
  · exact ⟨⟨a3, fun p hp => absurd hp (Nat.not_lt_zero _), fun p hp => (in_3 ⟨p, hp⟩).2.1, fun p i hp hi => (in_4 ⟨p, hp⟩ ⟨i, hi⟩).2, fun p hp => (in_3 ⟨p, hp⟩).2.2⟩, ⟨a5, fun j hj => absurd hj (Nat.not_lt_zero _)⟩, ⟨a7, fun j hj => absurd hj (Nat.not_lt_zero _)⟩, ⟨a8.symm, a9.symm⟩, ⟨a11, fun k hk => absurd hk (Nat.not_lt_zero _)⟩, ⟨c4, fun i hi => absurd hi (Nat.not_lt_zero _)⟩, ⟨c6, c7, fun i hi => absurd hi (Nat.not_lt_zero _)⟩⟩

theorem bc_pcn {a : Nat} (h : a < 16384) : bcN a = pcn a := by
  have h1 := bc_all (a / 128) (by omega) (a % 128) (by omega)
  rw [show 128 * (a / 128) + a % 128 = a by omega] at h1
  exact h1
theorem s_u32 : ∀ p : Nat, p < 32 → (((Int32.ofInt (p : Int)).toUInt32 &&& Int32.toUInt32 31).toBitVec % 32).toNat = p := by decide +kernel
theorem bUshr_n {a p : Nat} (ha : a < 2147483648) (hp : p < 32) : bUshr (a : Int) (p : Int) = ((a / 2 ^ p : Nat) : Int) := by
  rw [bUshr_d]
  rw [i32_nI, pk_ushrN (by omega) _ p (s_u32 p hp), nI_toInt]
  exact Nat.lt_of_le_of_lt (Nat.div_le_self _ _) (by omega)
theorem b_bitCount (M : Mm) {a : Nat} (h : a < 16384) : f_Integer_bitCount M (a : Int) = some (pcn a : Int) := by
  rw [← bc_pcn h]
  unfold f_Integer_bitCount bcN
  simp only [lt]
  have u1 := bUshr_n (a := a) (p := 1) (by omega) (by omega)
  rw [show ((1 : Nat) : Int) = 1 from rfl, show (2 : Nat) ^ 1 = 2 from rfl] at u1
  have a1 := bAnd_n (a := a / 2) (b := 1431655765) (by omega) (by omega)
  rw [show ((1431655765 : Nat) : Int) = 1431655765 from rfl] at a1
  have l1 : a / 2 &&& 1431655765 ≤ a / 2 := Nat.and_le_left
  rw [u1, a1, w32_s (x := (a : Int) - ((a / 2 &&& 1431655765 : Nat) : Int)) (by omega) (by omega), show (a : Int) - ((a / 2 &&& 1431655765 : Nat) : Int) = ((a - (a / 2 &&& 1431655765) : Nat) : Int) by omega]
  generalize ex1 : a - (a / 2 &&& 1431655765) = x1 at *
  have hx1 : x1 < 16384 := by omega
  have u2 := bUshr_n (a := x1) (p := 2) (by omega) (by omega)
  rw [show ((2 : Nat) : Int) = 2 from rfl, show (2 : Nat) ^ 2 = 4 from rfl] at u2
  have a2 := bAnd_n (a := x1) (b := 858993459) (by omega) (by omega)
  have a3 := bAnd_n (a := x1 / 4) (b := 858993459) (by omega) (by omega)
  rw [show ((858993459 : Nat) : Int) = 858993459 from rfl] at a2 a3
  have l2 : x1 &&& 858993459 ≤ x1 := Nat.and_le_left
  have l3 : x1 / 4 &&& 858993459 ≤ x1 / 4 := Nat.and_le_left
  rw [u2, a2, a3, ← Int.natCast_add, w32_s (x := (((x1 &&& 858993459) + (x1 / 4 &&& 858993459) : Nat) : Int)) (by omega) (by omega)]
  generalize ex2 : (x1 &&& 858993459) + (x1 / 4 &&& 858993459) = x2 at *
  have hx2 : x2 < 32768 := by omega
  have u3 := bUshr_n (a := x2) (p := 4) (by omega) (by omega)
  rw [show ((4 : Nat) : Int) = 4 from rfl, show (2 : Nat) ^ 4 = 16 from rfl] at u3
  have a4 := bAnd_n (a := x2 + x2 / 16) (b := 252645135) (by omega) (by omega)
  rw [show ((252645135 : Nat) : Int) = 252645135 from rfl] at a4
  have l4 : (x2 + x2 / 16) &&& 252645135 ≤ x2 + x2 / 16 := Nat.and_le_left
  rw [u3, ← Int.natCast_add, w32_s (x := ((x2 + x2 / 16 : Nat) : Int)) (by omega) (by omega), a4]
  generalize ex3 : (x2 + x2 / 16) &&& 252645135 = x3 at *
  have hx3 : x3 < 65536 := by omega
  have u4 := bUshr_n (a := x3) (p := 8) (by omega) (by omega)
  rw [show ((8 : Nat) : Int) = 8 from rfl, show (2 : Nat) ^ 8 = 256 from rfl] at u4
  rw [u4, ← Int.natCast_add, w32_s (x := ((x3 + x3 / 256 : Nat) : Int)) (by omega) (by omega)]
  generalize ex4 : x3 + x3 / 256 = x4 at *
  have hx4 : x4 < 131072 := by omega
  have u5 := bUshr_n (a := x4) (p := 16) (by omega) (by omega)
  rw [show ((16 : Nat) : Int) = 16 from rfl, show (2 : Nat) ^ 16 = 65536 from rfl] at u5
  have a5 := bAnd_n (a := x4 + x4 / 65536) (b := 63) (by omega) (by omega)
  rw [show ((63 : Nat) : Int) = 63 from rfl] at a5
  rw [u5, ← Int.natCast_add, w32_s (by omega) (by omega), a5]
theorem m_ones (M : Mm) {x : Nat} (hx : x < 1024) : f_Model_ones M 80 (x : Int) = some (pcn x : Int) := by
  have hb : pcn x ≤ 14 := cnt_le _ _
  refine w_eq ?_
  unfold f_Model_ones
  refine wB (wM (wp_loop (fun j s => ∃ y : Nat, s = ((j : Int), (y : Int)) ∧ y < 1024 ∧ j + pcn y = pcn x) (pcn x) (Q := fun t => t = (pcn x : Int)) (by omega) ⟨x, rfl, hx, by omega⟩ ?_) (fun t ht => wS ht))
  rintro j s hj ⟨y, rfl, hy, hj2⟩
  unfold l_Model_ones_4
  refine wC (fun hc => ?_) (fun hc => ?_)
  · have : y = 0 := by simp only at hc; omega
    subst this
    have h0 : pcn 0 = 0 := by decide
    refine wSr ?_
    rw [h0] at hj2; simp only; omega
  · have hy0 : y ≠ 0 := by simp only at hc; omega
    obtain ⟨g1, g2⟩ := ones_step y hy hy0
    refine wL (wL (wSl ⟨by omega, y &&& (y - 1), ?_, g2, by omega⟩))
    simp only
    rw [w32_s (by omega) (by omega), w32_s (by omega) (by omega), show (y : Int) - 1 = ((y - 1 : Nat) : Int) by omega, bAnd_n (by omega) (by omega)]
    rfl

/-! bits of small numbers -/
theorem i32_nI (a : Nat) : Int32.ofInt (a : Int) = nI a := rfl
theorem bv_n {a : Nat} (h : a < 2 ^ 32) : (Int32.ofInt (a : Int)).toBitVec.toNat = a := by rw [i32_nI]; exact pk_tn h
theorem int_of_bv {x : Int32} {n : Nat} (h : x.toBitVec.toNat = n) (hn : n < 2147483648) : x.toInt = (n : Int) := by
  rw [← Int32.toInt_toBitVec, BitVec.toInt_eq_toNat_of_lt (by rw [h]; omega), h]
theorem bAnd_n {a b : Nat} (ha : a < 2147483648) (hb : b < 4294967296) : bAnd (a : Int) (b : Int) = ((a &&& b : Nat) : Int) := by
  rw [bAnd_d]
  refine int_of_bv ?_ (Nat.lt_of_le_of_lt Nat.and_le_left ha)
  rw [Int32.toBitVec_and, BitVec.toNat_and, bv_n (by omega), bv_n (by omega)]
theorem bOr_n {a b : Nat} (ha : a < 2147483648) (hb : b < 2147483648) : bOr (a : Int) (b : Int) = ((a ||| b : Nat) : Int) := by
  rw [bOr_d]
  refine int_of_bv ?_ (by have := Nat.or_lt_two_pow (n := 31) (x := a) (y := b) (by omega) (by omega); omega)
  rw [Int32.toBitVec_or, BitVec.toNat_or, bv_n (by omega), bv_n (by omega)]
theorem sh_k : ∀ p : Nat, p < 32 → ((Int32.ofInt (p : Int) &&& 31).toBitVec.smod 32).toNat = p := by decide +kernel
theorem bShr_n {a p : Nat} (ha : a < 2147483648) (hp : p < 32) : bShr (a : Int) (p : Int) = ((a / 2 ^ p : Nat) : Int) := by
  rw [bShr_d]
  rw [i32_nI, pk_shrN (by omega) _ p (sh_k p hp), nI_toInt]
  exact Nat.lt_of_le_of_lt (Nat.div_le_self _ _) (by omega)
theorem bShl_1 (p : Nat) (hp : p < 31) : bShl 1 (p : Int) = ((2 ^ p : Nat) : Int) := by
  have e : ∀ p : Nat, p < 31 → (Int32.ofInt 1 <<< (Int32.ofInt (p : Int) &&& 31)).toInt = ((2 ^ p : Nat) : Int) := by decide +kernel
  rw [bShl_d]; exact e p hp
theorem two_lt {p q : Nat} (h : p < q) : 2 ^ p < 2 ^ q := Nat.pow_lt_pow_right (by decide) h
theorem bNot_n {a b : Nat} (ha : a < 2147483648) (hb : b < 2147483648) : bAnd (a : Int) (bXor (b : Int) (-1)) = ((a ^^^ (a &&& b) : Nat) : Int) := by
  rw [bAnd_d, bXor_d]
  rw [i32_of]
  refine int_of_bv ?_ ?_
  · rw [Int32.toBitVec_and, Int32.toBitVec_xor]
    have e : ∀ x y : BitVec 32, x &&& (y ^^^ (Int32.ofInt (-1)).toBitVec) = x ^^^ (x &&& y) := by
      intro x y
      have h1 : (Int32.ofInt (-1)).toBitVec = BitVec.allOnes 32 := by decide
      rw [h1]
      apply BitVec.eq_of_getLsbD_eq
      intro i hi
      simp only [BitVec.getLsbD_and, BitVec.getLsbD_xor, BitVec.getLsbD_allOnes, hi, decide_true]
      cases x.getLsbD i <;> cases y.getLsbD i <;> rfl
    rw [e, BitVec.toNat_xor, BitVec.toNat_and, bv_n (by omega), bv_n (by omega)]
  · have h1 := Nat.xor_lt_two_pow (n := 31) (x := a) (y := a &&& b) (by omega) (Nat.lt_of_le_of_lt Nat.and_le_left (by omega))
    omega
/-- the bit p of a: as the programs ask for it -/
theorem bit_n {a p : Nat} (ha : a < 2147483648) (hp : p < 32) : bAnd (bShr (a : Int) (p : Int)) 1 = if a.testBit p then 1 else 0 := by
  rw [bShr_n ha hp]
  have h1 : a / 2 ^ p < 2147483648 := Nat.lt_of_le_of_lt (Nat.div_le_self _ _) ha
  have h2 := bAnd_n (a := a / 2 ^ p) (b := 1) h1 (by omega)
  rw [show ((1 : Nat) : Int) = 1 from rfl] at h2
  rw [h2, Nat.testBit, Nat.shiftRight_eq_div_pow]
  rw [Nat.and_one_is_mod]
  have h3 : 1 &&& a / 2 ^ p = a / 2 ^ p % 2 := by rw [Nat.and_comm, Nat.and_one_is_mod]
  rw [h3]
  rcases Nat.mod_two_eq_zero_or_one (a / 2 ^ p) with e | e <;> rw [e] <;> rfl
theorem tb_or {b p q : Nat} : (b ||| 2 ^ p).testBit q = (b.testBit q || decide (p = q)) := by
  rw [Nat.testBit_or, Nat.testBit_two_pow]
theorem tb_not {b p q : Nat} : (b ^^^ (b &&& 2 ^ p)).testBit q = (b.testBit q && !decide (p = q)) := by
  rw [Nat.testBit_xor, Nat.testBit_and, Nat.testBit_two_pow]
  cases b.testBit q <;> cases decide (p = q) <;> rfl
/-! numbers in range -/
theorem w32_s {x : Int} (h : -2147483648 ≤ x) (h2 : x < 2147483648) : w32 x = x := w32_id ⟨h, h2⟩
theorem cI_2 (n : Nat) : cI ((n : Int) + 1) = n := cI_s n
/-- two memories alike on a set of cells -/
def Al (S : Nat → Prop) (M M' : Mm) : Prop := ∀ c, S c → (∀ k, mg M' c k = mg M c k) ∧ ml M' c = ml M c
theorem Al_rf {S : Nat → Prop} {M : Mm} : Al S M M := fun _ _ => ⟨fun _ => rfl, rfl⟩
theorem Al_tr {S : Nat → Prop} {M M1 M2 : Mm} (h1 : Al S M M1) (h2 : Al S M1 M2) : Al S M M2 := fun c hc => ⟨fun k => ((h2 c hc).1 k).trans ((h1 c hc).1 k), (h2 c hc).2.trans (h1 c hc).2⟩
theorem Al_mp {S : Nat → Prop} {M : Mm} {c k : Nat} {v : Int} (h : ¬ S c) : Al S M (mp M c k v) := by
  intro c' hc
  have hne : c' ≠ c := fun e => h (by rw [← e]; exact hc)
  exact ⟨fun k' => mg_mp_n (fun e => hne e.1), rfl⟩
theorem Al_mw {S : Nat → Prop} {M : Mm} {n : Nat} (h : ¬ S (mN M)) : Al S M (mw M n) := by
  intro c' hc
  have hne : c' ≠ mN M := fun e => h (by rw [← e]; exact hc)
  exact ⟨fun k' => by rw [mg_mw, if_neg hne], by rw [ml_mw, if_neg hne]⟩
theorem Al_sub {S T : Nat → Prop} {M M' : Mm} (h : Al S M M') (hs : ∀ c, T c → S c) : Al T M M' := fun c hc => h c (hs c hc)

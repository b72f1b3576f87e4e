/-! counting -/
def cnt (f : Nat → Bool) : Nat → Nat
  | 0 => 0
  | n + 1 => cnt f n + (if f n then 1 else 0)
theorem cnt_le (f : Nat → Bool) : ∀ n, cnt f n ≤ n
  | 0 => Nat.le_refl 0
  | n + 1 => by have := cnt_le f n; unfold cnt; split <;> omega
theorem cnt_cg {f g : Nat → Bool} : ∀ n, (∀ i, i < n → f i = g i) → cnt f n = cnt g n
  | 0, _ => rfl
  | n + 1, h => by
    have h1 := cnt_cg n (fun i hi => h i (by omega))
    unfold cnt; rw [h1, h n (by omega)]
theorem cnt_mn {f g : Nat → Bool} : ∀ n, (∀ i, i < n → f i = true → g i = true) → cnt f n ≤ cnt g n
  | 0, _ => Nat.le_refl 0
  | n + 1, h => by
    have h1 := cnt_mn n (fun i hi => h i (by omega))
    have h2 := h n (by omega)
    unfold cnt
    cases e : f n with
    | true => rw [h2 e]; simp; omega
    | false => simp; split <;> omega
theorem cnt_z {f : Nat → Bool} : ∀ n, (∀ i, i < n → f i = false) → cnt f n = 0
  | 0, _ => rfl
  | n + 1, h => by
    have h1 := cnt_z n (fun i hi => h i (by omega))
    unfold cnt; rw [h1, h n (by omega)]; rfl
/-- beyond what counts -/
theorem cnt_ext {f : Nat → Bool} {n : Nat} : ∀ m, n ≤ m → (∀ i, n ≤ i → f i = false) → cnt f m = cnt f n
  | 0, h, _ => by have : n = 0 := by omega
                  rw [this]
  | m + 1, h, hf => by
    by_cases e : n = m + 1
    · rw [e]
    · have h1 := cnt_ext m (by omega) hf
      unfold cnt; rw [h1, hf m (by omega)]; cases n <;> simp [cnt]
/-- one less -/
theorem cnt_rm {g : Nat → Bool} {x : Nat} : ∀ n, x < n → g x = true → cnt (fun b => g b && !decide (b = x)) n + 1 = cnt g n
  | 0, h, _ => absurd h (Nat.not_lt_zero x)
  | n + 1, h, hg => by
    unfold cnt
    by_cases e : x = n
    · subst e
      rw [hg]
      have : cnt (fun b => g b && !decide (b = x)) x = cnt g x := cnt_cg x (fun i hi => by simp [show i ≠ x by omega])
      rw [this]; simp
    · have h1 := cnt_rm n (by omega) hg
      have h2 : (g n && !decide (n = x)) = g n := by simp [show n ≠ x from fun z => e z.symm]
      rw [h2]; omega
/-- one more -/
theorem cnt_ad {g : Nat → Bool} {x n : Nat} (hx : x < n) (hg : g x = false) : cnt (fun b => g b || decide (b = x)) n = cnt g n + 1 := by
  have h1 := cnt_rm (g := fun b => g b || decide (b = x)) n hx (by simp)
  rw [← h1]
  congr 1
  refine cnt_cg n (fun i _ => ?_)
  by_cases e : i = x
  · subst e; simp [hg]
  · simp [e]
/-- as many at most as there are places, if no two have the same -/
theorem pigeon {b : Nat} : ∀ (a : Nat) (S T : Nat → Bool) (f : Nat → Nat), (∀ i, i < a → S i = true → f i < b ∧ T (f i) = true) → (∀ i j, i < a → j < a → S i = true → S j = true → f i = f j → i = j) → cnt S a ≤ cnt T b
  | 0, S, T, f, _, _ => Nat.zero_le _
  | a + 1, S, T, f, h1, h2 => by
    cases e : S a with
    | false =>
      have := pigeon a S T f (fun i hi => h1 i (by omega)) (fun i j hi hj => h2 i j (by omega) (by omega))
      show cnt S a + (if S a then 1 else 0) ≤ _
      rw [e]; simpa using this
    | true =>
      obtain ⟨g1, g2⟩ := h1 a (by omega) e
      have h3 := cnt_rm b g1 g2
      have := pigeon a S (fun x => T x && !decide (x = f a)) f (fun i hi hs => ⟨(h1 i (by omega) hs).1, by
        have h4 := (h1 i (by omega) hs).2
        have h5 : f i ≠ f a := fun e2 => by have := h2 i a (by omega) (by omega) hs e e2; omega
        simp [h4, h5]⟩) (fun i j hi hj => h2 i j (by omega) (by omega))
      show cnt S a + (if S a then 1 else 0) ≤ _
      rw [e]; simp only [if_true]; omega
def exB (f : Nat → Bool) : Nat → Bool
  | 0 => false
  | n + 1 => exB f n || f n
theorem exB_iff {f : Nat → Bool} : ∀ n, exB f n = true ↔ ∃ i, i < n ∧ f i = true
  | 0 => by unfold exB; simp
  | n + 1 => by
    unfold exB
    rw [Bool.or_eq_true, exB_iff n]
    constructor
    · rintro (⟨i, h1, h2⟩ | h)
      · exact ⟨i, by omega, h2⟩
      · exact ⟨n, by omega, h⟩
    · rintro ⟨i, h1, h2⟩
      by_cases e : i = n
      · subst e; exact Or.inr h2
      · exact Or.inl ⟨i, by omega, h2⟩
/-- a set as a number -/
def msk (f : Nat → Bool) : Nat → Nat
  | 0 => 0
  | n + 1 => if f n then msk f n ||| 2 ^ n else msk f n
theorem msk_tb (f : Nat → Bool) (q : Nat) : ∀ n, (msk f n).testBit q = (decide (q < n) && f q)
  | 0 => by simp [msk]
  | n + 1 => by
    have h := msk_tb f q n
    unfold msk
    by_cases e : q = n
    · subst e
      split
      · rename_i hf; rw [tb_or, h]; simp [hf]
      · rename_i hf; rw [h]; simp at hf; simp [hf]
    · have h2 : decide (q < n + 1) = decide (q < n) := by simp; omega
      rw [h2]
      split
      · rw [tb_or, h]; simp [Ne.symm e]
      · exact h
theorem msk_lt (f : Nat → Bool) : ∀ n, msk f n < 2 ^ n
  | 0 => by simp [msk]
  | n + 1 => by
    have h := msk_lt f n
    have h2 : 2 ^ (n + 1) = 2 ^ n + 2 ^ n := by rw [Nat.pow_succ]; omega
    unfold msk; split
    · exact Nat.or_lt_two_pow (by omega) (by omega)
    · omega
/-- how many bits -/
def pcn (x : Nat) : Nat := cnt x.testBit 14
def bcN (a : Nat) : Nat :=
  let x1 := a - (a / 2 &&& 1431655765)
  let x2 := (x1 &&& 858993459) + (x1 / 4 &&& 858993459)
  let x3 := (x2 + x2 / 16) &&& 252645135
  let x4 := x3 + x3 / 256
  (x4 + x4 / 65536) &&& 63
theorem bc_all : ∀ a, a < 128 → ∀ b, b < 128 → bcN (128 * a + b) = pcn (128 * a + b) := by decide +kernel
theorem ones_step : ∀ y, y < 1024 → y ≠ 0 → pcn (y &&& (y - 1)) + 1 = pcn y ∧ y &&& (y - 1) < 1024 := by decide +kernel

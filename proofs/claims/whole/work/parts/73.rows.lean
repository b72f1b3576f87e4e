/-! PROGRAMMES as rows -/
def rS (r : Nat → Nat) : Nat → Nat
  | 0 => 0
  | i + 1 => rS r i ||| 2 ^ r i
theorem rS_tb (r : Nat → Nat) (k : Nat) : ∀ i, (rS r i).testBit k = true ↔ ∃ j, j < i ∧ r j = k
  | 0 => by
    show (0 : Nat).testBit k = true ↔ _
    rw [Nat.zero_testBit]
    exact ⟨fun h => absurd h (by decide), fun ⟨j, hj, _⟩ => absurd hj (Nat.not_lt_zero j)⟩
  | i + 1 => by
    have h := rS_tb r k i
    show (rS r i ||| 2 ^ r i).testBit k = true ↔ _
    rw [tb_or, Bool.or_eq_true, h, decide_eq_true_iff]
    constructor
    · rintro (⟨j, h1, h2⟩ | h1)
      · exact ⟨j, by omega, h2⟩
      · exact ⟨i, by omega, h1⟩
    · rintro ⟨j, h1, h2⟩
      by_cases e : j = i
      · subst e; exact Or.inr h2
      · exact Or.inl ⟨j, by omega, h2⟩
theorem rS_cg {a b : Nat → Nat} : ∀ i, (∀ j, j < i → a j = b j) → rS a i = rS b i
  | 0, _ => rfl
  | i + 1, h => by
    show rS a i ||| 2 ^ a i = rS b i ||| 2 ^ b i
    rw [rS_cg i (fun j hj => h j (by omega)), h i (by omega)]
theorem rS_lt {N : Nat} {r : Nat → Nat} : ∀ i, (∀ j, j < i → r j < N) → rS r i < 2 ^ N
  | 0, _ => pow_1 N
  | i + 1, h => Nat.or_lt_two_pow (rS_lt i (fun j hj => h j (by omega))) (two_lt (h i (by omega)))
/-- the sum over a set -/
def mS (mi : Nat → Int) (N s : Nat) : Int := sumN (fun k => if s.testBit k then mi k else 0) N
theorem mS_add {mi : Nat → Int} {s k : Nat} : ∀ N, k < N → s.testBit k = false → mS mi N (s ||| 2 ^ k) = mS mi N s + mi k
  | 0, h, _ => absurd h (Nat.not_lt_zero k)
  | N + 1, h, hs => by
    show mS mi N (s ||| 2 ^ k) + (if (s ||| 2 ^ k).testBit N then mi N else 0) = mS mi N s + (if s.testBit N then mi N else 0) + mi k
    by_cases e : N = k
    · subst e
      have h1 : mS mi N (s ||| 2 ^ N) = mS mi N s := sum_cg N (fun i hi => by rw [tb_or, decide_eq_false (show ¬ N = i by omega), Bool.or_false])
      rw [h1, hs, tb_or, decide_eq_true rfl, Bool.or_true]; simp
    · have h1 := mS_add (mi := mi) N (show k < N by omega) hs
      rw [tb_or, decide_eq_false (show ¬ k = N from fun z => e z.symm), Bool.or_false]
      omega
theorem mS_0 (mi : Nat → Int) : ∀ N, mS mi N 0 = 0
  | 0 => rfl
  | N + 1 => by
    have h := mS_0 mi N
    show mS mi N 0 + (if (0 : Nat).testBit N then mi N else 0) = 0
    rw [h, Nat.zero_testBit]; rfl
theorem mS_row {mi : Nat → Int} {N : Nat} {r : Nat → Nat} : ∀ len, (∀ i, i < len → r i < N) → (∀ i j, i < len → j < len → r i = r j → i = j) → mS mi N (rS r len) = sumN (fun i => mi (r i)) len
  | 0, _, _ => mS_0 mi N
  | len + 1, h1, h2 => by
    have h3 := mS_row (mi := mi) len (fun i hi => h1 i (by omega)) (fun i j hi hj => h2 i j (by omega) (by omega))
    have h4 : (rS r len).testBit (r len) = false := by
      cases e : (rS r len).testBit (r len) with
      | false => rfl
      | true =>
        obtain ⟨j, j1, j2⟩ := (rS_tb r (r len) len).mp e
        have := h2 j len (by omega) (by omega) j2
        omega
    show mS mi N (rS r len ||| 2 ^ r len) = sumN (fun i => mi (r i)) len + mi (r len)
    rw [mS_add N (h1 len (by omega)) h4, h3]
theorem mS_b {mi : Nat → Int} {N : Nat} (h : ∀ k, k < N → 0 ≤ mi k ∧ mi k ≤ 60) (s : Nat) : 0 ≤ mS mi N s ∧ mS mi N s ≤ 60 * (N : Int) := by
  have := sum_bd (f := fun k => if s.testBit k then mi k else 0) (a := 0) (b := 60) N (fun i hi => by
    have := h i hi
    split <;> omega)
  unfold mS; omega
/-- how many a row's set has -/
theorem rS_pcn {r : Nat → Nat} : ∀ len, (∀ i, i < len → r i < 14) → (∀ i j, i < len → j < len → r i = r j → i = j) → pcn (rS r len) = len
  | 0, _, _ => cnt_z 14 (fun i _ => Nat.zero_testBit i)
  | len + 1, h1, h2 => by
    have h3 := rS_pcn len (fun i hi => h1 i (by omega)) (fun i j hi hj => h2 i j (by omega) (by omega))
    have h4 : (rS r len).testBit (r len) = false := by
      cases e : (rS r len).testBit (r len) with
      | false => rfl
      | true =>
        obtain ⟨j, j1, j2⟩ := (rS_tb r (r len) len).mp e
        have := h2 j len (by omega) (by omega) j2
        omega
    have h5 := cnt_ad (g := (rS r len).testBit) (h1 len (by omega)) h4
    unfold pcn at h3 ⊢
    have e : cnt (rS r (len + 1)).testBit 14 = cnt (fun b => (rS r len).testBit b || decide (b = r len)) 14 := cnt_cg 14 (fun p _ => by
      show (rS r len ||| 2 ^ r len).testBit p = _
      rw [tb_or, show decide (r len = p) = decide (p = r len) from decide_eq_decide.mpr ⟨Eq.symm, Eq.symm⟩])
    rw [e, h5, h3]
/-- a row that may be: each once, neighbours' lips -/
def VR (N : Nat) (good : Nat → Bool) (li : Nat → Int) (MO : Int) (len : Nat) (r : Nat → Nat) : Prop := (∀ i, i < len → r i < N ∧ good (r i) = true) ∧ (∀ i j, i < len → j < len → r i = r j → i = j) ∧ ∀ i, i + 1 < len → li (r i) + li (r (i + 1)) ≤ MO
theorem VR_pre {N : Nat} {good : Nat → Bool} {li : Nat → Int} {MO : Int} {len len' : Nat} {r : Nat → Nat} (h : VR N good li MO len r) (hl : len' ≤ len) : VR N good li MO len' r := ⟨fun i hi => h.1 i (by omega), fun i j hi hj => h.2.1 i j (by omega) (by omega), fun i hi => h.2.2 i (by omega)⟩
theorem VR_len {N : Nat} {good : Nat → Bool} {li : Nat → Int} {MO : Int} {len : Nat} {r : Nat → Nat} (h : VR N good li MO len r) : len ≤ N := by
  have h1 := pigeon (b := N) len (fun _ => true) (fun _ => true) r (fun i hi _ => ⟨(h.1 i hi).1, rfl⟩) (fun i j hi hj _ _ e => h.2.1 i j hi hj e)
  have ct : ∀ n, cnt (fun _ => true) n = n := by
    intro n
    induction n with
    | zero => rfl
    | succ n ih => show cnt (fun _ => true) n + 1 = n + 1; omega
  rw [ct, ct] at h1; exact h1
/-- a row with one more -/
theorem VR_snoc {N : Nat} {good : Nat → Bool} {li : Nat → Int} {MO : Int} {len k : Nat} {r : Nat → Nat} (h : VR N good li MO len r) (hk : k < N) (hg : good k = true) (hs : (rS r len).testBit k = false) (hl : ∀ j, j + 1 = len → li (r j) + li k ≤ MO) : VR N good li MO (len + 1) (up r len k) := by
  have hno : ∀ i, i < len → r i ≠ k := fun i hi e => by
    have := (rS_tb r k len).mpr ⟨i, hi, e⟩
    rw [hs] at this; cases this
  refine ⟨fun i hi => ?_, fun i j hi hj e => ?_, fun i hi => ?_⟩
  · by_cases ei : i = len
    · rw [ei, up_s]; exact ⟨hk, hg⟩
    · rw [up_n ei]; exact h.1 i (by omega)
  · by_cases ei : i = len
    · by_cases ej : j = len
      · omega
      · rw [ei, up_s, up_n ej] at e
        exact absurd e.symm (hno j (by omega))
    · by_cases ej : j = len
      · rw [ej, up_s, up_n ei] at e
        exact absurd e (hno i (by omega))
      · rw [up_n ei, up_n ej] at e
        exact h.2.1 i j (by omega) (by omega) e
  · by_cases ei : i + 1 = len
    · rw [up_n (show i ≠ len by omega), ei, up_s]; exact hl i ei
    · rw [up_n (show i ≠ len by omega), up_n ei]; exact h.2.2 i (by omega)
theorem rS_snoc (r : Nat → Nat) (len k : Nat) : rS (up r len k) (len + 1) = rS r len ||| 2 ^ k := by
  show rS (up r len k) len ||| 2 ^ up r len k len = _
  rw [rS_cg len (fun j hj => up_n (by omega)), up_s]
/-! the strain, the pieces as digits -/
def str (kg : Nat → Nat → Int) (r : Nat → Nat) (len : Nat) : Int := sumN (fun i => kg (r i) (r (i + 1))) (len - 1)
def dq (i : Nat) : Int := dg2.getD i 0
theorem dq_s : ∀ i, i < 9 → dq i = 10 * dq (i + 1) := by decide
theorem dq_p : ∀ i, i < 10 → 1 ≤ dq i ∧ dq i ≤ 1000000000 := by decide
theorem dq_sfx {a : Nat → Nat} (ha : ∀ j, a j < 10) : ∀ r i, i + r ≤ 10 → i < 10 → 0 ≤ sfx (fun j => (a j : Int) * dq j) i r ∧ sfx (fun j => (a j : Int) * dq j) i r < 10 * dq i
  | 0, i, _, hi => by
    have := dq_p i hi
    unfold sfx; omega
  | r + 1, i, h, hi => by
    have h1 := dq_p i hi
    have h2 := ha i
    have h3 : (a i : Int) * dq i ≤ 9 * dq i := Int.mul_le_mul_of_nonneg_right (by omega) (by omega)
    have h4 : 0 ≤ (a i : Int) * dq i := Int.mul_nonneg (by omega) (by omega)
    show 0 ≤ (a i : Int) * dq i + sfx (fun j => (a j : Int) * dq j) (i + 1) r ∧ (a i : Int) * dq i + sfx (fun j => (a j : Int) * dq j) (i + 1) r < 10 * dq i
    by_cases e : i = 9
    · subst e
      have : r = 0 := by omega
      subst this
      have z : sfx (fun j => (a j : Int) * dq j) (9 + 1) 0 = 0 := rfl
      omega
    · have h5 := dq_sfx ha r (i + 1) (by omega) (by omega)
      have h6 := dq_s i (by omega)
      omega
def dqS (a : Nat → Nat) (len : Nat) : Int := sumN (fun j => (a j : Int) * dq j) len
theorem dqS_b {a : Nat → Nat} (ha : ∀ j, a j < 10) {len : Nat} (hl : len ≤ 10) : 0 ≤ dqS a len ∧ dqS a len < 10000000000 := by
  have h := dq_sfx ha len 0 (by omega) (by omega)
  have h2 := sum_sfx (fun j => (a j : Int) * dq j) len 0
  rw [Nat.zero_add] at h2
  have z : sumN (fun j => (a j : Int) * dq j) 0 = 0 := rfl
  have e : dq 0 = 1000000000 := rfl
  unfold dqS
  omega
theorem dqS_lt {a b : Nat → Nat} (ha : ∀ j, a j < 10) (hb : ∀ j, b j < 10) {la lb i : Nat} (hla : la ≤ 10) (hlb : lb ≤ 10) (hia : i < la) (hib : i < lb) (hpre : ∀ j, j < i → a j = b j) (hlt : a i < b i) : dqS a la < dqS b lb := by
  obtain ⟨r, hr⟩ : ∃ r, i + (r + 1) = la := ⟨la - (i + 1), by omega⟩
  obtain ⟨q, hq⟩ : ∃ q, i + (q + 1) = lb := ⟨lb - (i + 1), by omega⟩
  have s1 := sum_sfx (fun j => (a j : Int) * dq j) (r + 1) i
  have s2 := sum_sfx (fun j => (b j : Int) * dq j) (q + 1) i
  rw [hr] at s1
  rw [hq] at s2
  have s3 : sumN (fun j => (a j : Int) * dq j) i = sumN (fun j => (b j : Int) * dq j) i := sum_cg i (fun j hj => by rw [hpre j hj])
  have s4 : sfx (fun j => (a j : Int) * dq j) i (r + 1) = (a i : Int) * dq i + sfx (fun j => (a j : Int) * dq j) (i + 1) r := rfl
  have s5 : sfx (fun j => (b j : Int) * dq j) i (q + 1) = (b i : Int) * dq i + sfx (fun j => (b j : Int) * dq j) (i + 1) q := rfl
  have h1 := dq_p i (by omega)
  have h2 : (a i : Int) * dq i + dq i ≤ (b i : Int) * dq i := by
    have : ((a i : Int) + 1) * dq i ≤ (b i : Int) * dq i := Int.mul_le_mul_of_nonneg_right (by omega) (by omega)
    rw [Int.add_mul] at this; omega
  unfold dqS
  by_cases e : i = 9
  · have : r = 0 := by omega
    subst this
    have : q = 0 := by omega
    subst this
    have z1 : sfx (fun j => (a j : Int) * dq j) (i + 1) 0 = 0 := rfl
    have z2 : sfx (fun j => (b j : Int) * dq j) (i + 1) 0 = 0 := rfl
    omega
  · have h5 := dq_sfx ha r (i + 1) (by omega) (by omega)
    have h6 := dq_sfx hb q (i + 1) (by omega) (by omega)
    have h7 := dq_s i (by omega)
    omega
/-- a digit, read back -/
theorem dq_pre (a : Nat → Nat) (st : Int) : ∀ i, i < 10 → ∃ X, st * 10000000000 + sumN (fun j => (a j : Int) * dq j) i = dq i * (10 * X)
  | 0, _ => ⟨st, by
    have e : dq 0 = 1000000000 := rfl
    have z : sumN (fun j => (a j : Int) * dq j) 0 = 0 := rfl
    rw [e, z]; omega⟩
  | i + 1, h => by
    obtain ⟨X, hX⟩ := dq_pre a st i (by omega)
    refine ⟨10 * X + (a i : Int), ?_⟩
    have e := dq_s i (by omega)
    show st * 10000000000 + (sumN (fun j => (a j : Int) * dq j) i + (a i : Int) * dq i) = _
    have h2 : dq (i + 1) * (10 * (10 * X + (a i : Int))) = 10 * dq (i + 1) * (10 * X + (a i : Int)) := by
      rw [← Int.mul_assoc, Int.mul_comm (dq (i + 1)) 10]
    rw [h2, ← e, Int.mul_add, Int.mul_comm (dq i) (a i : Int)]
    omega
theorem dq_dec {a : Nat → Nat} (ha : ∀ j, a j < 10) (st : Int) {len i : Nat} (hl : len ≤ 10) (hi : i < len) : (st * 10000000000 + dqS a len) / dq i % 10 = (a i : Int) := by
  obtain ⟨r, hr⟩ : ∃ r, i + (r + 1) = len := ⟨len - (i + 1), by omega⟩
  obtain ⟨X, hX⟩ := dq_pre a st i (by omega)
  have s1 := sum_sfx (fun j => (a j : Int) * dq j) (r + 1) i
  rw [hr] at s1
  have s4 : sfx (fun j => (a j : Int) * dq j) i (r + 1) = (a i : Int) * dq i + sfx (fun j => (a j : Int) * dq j) (i + 1) r := rfl
  have h1 := dq_p i (by omega)
  have hY : 0 ≤ sfx (fun j => (a j : Int) * dq j) (i + 1) r ∧ sfx (fun j => (a j : Int) * dq j) (i + 1) r < dq i := by
    by_cases e : i = 9
    · have : r = 0 := by omega
      subst this
      have z1 : sfx (fun j => (a j : Int) * dq j) (i + 1) 0 = 0 := rfl
      omega
    · have h5 := dq_sfx ha r (i + 1) (by omega) (by omega)
      have h7 := dq_s i (by omega)
      omega
  have hv : st * 10000000000 + dqS a len = sfx (fun j => (a j : Int) * dq j) (i + 1) r + dq i * (10 * X + (a i : Int)) := by
    unfold dqS
    rw [Int.mul_add, Int.mul_comm (dq i) (a i : Int)]
    omega
  rw [hv, Int.add_mul_ediv_left _ _ (show dq i ≠ 0 by omega), Int.ediv_eq_zero_of_lt hY.1 hY.2]
  have := ha i
  omega
theorem dq_top {a : Nat → Nat} (ha : ∀ j, a j < 10) (st : Int) {len : Nat} (hl : len ≤ 10) : (st * 10000000000 + dqS a len) / 10000000000 = st := by
  have := dqS_b ha hl
  omega
/-- class and reference plan alike -/
theorem prog_eq {mi : Nat → Int} {a b : Nat → Nat} {la lb : Nat} {Sa Sb : Int} (ha : ∀ j, a j < 10) (hb : ∀ j, b j < 10) (hla : la ≤ 10) (hlb : lb ≤ 10) (hmi : ∀ k, k < 10 → 1 ≤ mi k) (hT : sumN (fun i => mi (a i)) la = sumN (fun i => mi (b i)) lb) (hv : Sa * 10000000000 + dqS a la ≤ Sb * 10000000000 + dqS b lb) (hS : Sb ≤ Sa) (hfirst : Sa = Sb → ∀ i, i < la → i < lb → (∀ j, j < i → a j = b j) → b i ≤ a i) : la = lb ∧ Sa = Sb ∧ ∀ i, i < la → a i = b i := by
  have ba := dqS_b ha hla
  have bb := dqS_b hb hlb
  have e1 : Sa = Sb := by omega
  have e2 : dqS a la ≤ dqS b lb := by omega
  have key : ∀ i, i < la → i < lb → a i = b i := by
    intro i
    induction i using Nat.strongRecOn with
    | _ i ih =>
      intro h1 h2
      have hpre : ∀ j, j < i → a j = b j := fun j hj => ih j hj (by omega) (by omega)
      have h3 := hfirst e1 i h1 h2 hpre
      rcases Nat.lt_or_ge (b i) (a i) with h | h
      · have := dqS_lt hb ha hlb hla h2 h1 (fun j hj => (hpre j hj).symm) h
        omega
      · omega
  have len : ∀ (x y : Nat → Nat) (lx ly : Nat), (∀ j, y j < 10) → (∀ i, i < lx → i < ly → x i = y i) → sumN (fun i => mi (x i)) lx = sumN (fun i => mi (y i)) ly → ¬ lx < ly := by
    intro x y lx ly hy hxy hs hlt
    obtain ⟨r, hr⟩ : ∃ r, lx + (r + 1) = ly := ⟨ly - (lx + 1), by omega⟩
    have s1 := sum_sfx (fun j => mi (y j)) (r + 1) lx
    rw [hr, ← hs, sum_cg (f := fun i => mi (x i)) (g := fun i => mi (y i)) lx (fun i hi => by rw [hxy i hi (by omega)])] at s1
    have pos : ∀ q i, 0 ≤ sfx (fun j => mi (y j)) i q := by
      intro q
      induction q with
      | zero => intro i; exact Int.le_refl 0
      | succ q ih =>
        intro i
        have h1 := hmi (y i) (hy i)
        have h2 := ih (i + 1)
        show 0 ≤ mi (y i) + sfx (fun j => mi (y j)) (i + 1) q
        omega
    have s2 : sfx (fun j => mi (y j)) lx (r + 1) = mi (y lx) + sfx (fun j => mi (y j)) (lx + 1) r := rfl
    have h1 := hmi (y lx) (hy lx)
    have h2 := pos r (lx + 1)
    omega
  have n1 := len a b la lb hb key hT
  have n2 := len b a lb la ha (fun i h1 h2 => (key i h2 h1).symm) hT.symm
  exact ⟨by omega, e1, fun i hi => key i hi (by omega)⟩

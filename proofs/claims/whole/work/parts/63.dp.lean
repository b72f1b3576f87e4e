/-! sums -/
def sumN (f : Nat → Int) : Nat → Int
  | 0 => 0
  | n + 1 => sumN f n + f n
/-- r of them from the i-th on -/
def sfx (f : Nat → Int) : Nat → Nat → Int
  | _, 0 => 0
  | i, r + 1 => f i + sfx f (i + 1) r
theorem sum_sfx (f : Nat → Int) : ∀ r i, sumN f i + sfx f i r = sumN f (i + r)
  | 0, i => by unfold sfx; rw [Nat.add_zero]; omega
  | r + 1, i => by
    have h := sum_sfx f r (i + 1)
    unfold sfx
    rw [show i + (r + 1) = i + 1 + r by omega, ← h]
    show _ = sumN f i + f i + _
    omega
theorem sum_cg {f g : Nat → Int} : ∀ n, (∀ i, i < n → f i = g i) → sumN f n = sumN g n
  | 0, _ => rfl
  | n + 1, h => by
    have h1 := sum_cg n (fun i hi => h i (by omega))
    have h2 := h n (by omega)
    show sumN f n + f n = sumN g n + g n
    omega
theorem sum_le {f g : Nat → Int} : ∀ n, (∀ i, i < n → f i ≤ g i) → sumN f n ≤ sumN g n
  | 0, _ => Int.le_refl 0
  | n + 1, h => by
    have h1 := sum_le n (fun i hi => h i (by omega))
    have h2 := h n (by omega)
    show sumN f n + f n ≤ sumN g n + g n
    omega
theorem sum_add (f g : Nat → Int) : ∀ n, sumN (fun i => f i + g i) n = sumN f n + sumN g n
  | 0 => rfl
  | n + 1 => by
    have h := sum_add f g n
    show sumN (fun i => f i + g i) n + (f n + g n) = sumN f n + f n + (sumN g n + g n)
    omega
theorem sum_mul (f : Nat → Int) (c : Int) : ∀ n, sumN (fun i => f i * c) n = sumN f n * c
  | 0 => by show (0 : Int) = 0 * c; omega
  | n + 1 => by
    have h := sum_mul f c n
    show sumN (fun i => f i * c) n + f n * c = (sumN f n + f n) * c
    rw [Int.add_mul]; omega
theorem sum_bd {f : Nat → Int} {a b : Int} : ∀ n : Nat, (∀ i, i < n → a ≤ f i ∧ f i ≤ b) → a * (n : Int) ≤ sumN f n ∧ sumN f n ≤ b * (n : Int)
  | 0, _ => by show a * 0 ≤ 0 ∧ 0 ≤ b * 0; omega
  | n + 1, h => by
    have h1 := sum_bd n (fun i hi => h i (by omega))
    have h2 := h n (by omega)
    have e1 : a * ((n + 1 : Nat) : Int) = a * (n : Int) + a := by rw [Int.natCast_add, Int.mul_add]; omega
    have e2 : b * ((n + 1 : Nat) : Int) = b * (n : Int) + b := by rw [Int.natCast_add, Int.mul_add]; omega
    show _ ≤ sumN f n + f n ∧ sumN f n + f n ≤ _
    omega
theorem sfx_cg {f g : Nat → Int} : ∀ r i, (∀ j, i ≤ j → j < i + r → f j = g j) → sfx f i r = sfx g i r
  | 0, _, _ => rfl
  | r + 1, i, h => by
    have h1 := sfx_cg r (i + 1) (fun j h1 h2 => h j (by omega) (by omega))
    have h2 := h i (by omega) (by omega)
    show f i + sfx f (i + 1) r = g i + sfx g (i + 1) r
    omega
theorem sfx_bd {f : Nat → Int} {b : Int} (hb : 0 ≤ b) : ∀ (r i : Nat), (∀ j, i ≤ j → j < i + r → 0 ≤ f j ∧ f j ≤ b) → 0 ≤ sfx f i r ∧ sfx f i r ≤ b * (r : Int)
  | 0, _, _ => by show 0 ≤ (0 : Int) ∧ (0 : Int) ≤ b * 0; omega
  | r + 1, i, h => by
    have h1 := sfx_bd hb r (i + 1) (fun j h1 h2 => h j (by omega) (by omega))
    have h2 := h i (by omega) (by omega)
    have e2 : b * ((r + 1 : Nat) : Int) = b * (r : Int) + b := by rw [Int.natCast_add, Int.mul_add]; omega
    show 0 ≤ f i + sfx f (i + 1) r ∧ f i + sfx f (i + 1) r ≤ _
    omega
/-! the least of all: part by part, by those who are left -/
def stp (s p : Nat) : Nat := if p < 14 then s ||| 2 ^ p else s
def okp (mb : Nat → Nat → Bool) (i s p : Nat) : Bool := mb i p && (decide (14 ≤ p) || !s.testBit p)
def dpM (f : Nat → Int) : Nat → Int
  | 0 => 1000000
  | p + 1 => if f p < dpM f p then f p else dpM f p
theorem dpM_le (f : Nat → Int) : ∀ n, dpM f n ≤ 1000000 ∧ ∀ p, p < n → dpM f n ≤ f p
  | 0 => ⟨Int.le_refl _, fun p h => absurd h (Nat.not_lt_zero p)⟩
  | n + 1 => by
    obtain ⟨h1, h2⟩ := dpM_le f n
    unfold dpM
    split
    · rename_i h
      refine ⟨by omega, fun p hp => ?_⟩
      by_cases e : p = n
      · subst e; exact Int.le_refl _
      · have := h2 p (by omega); omega
    · refine ⟨h1, fun p hp => ?_⟩
      by_cases e : p = n
      · subst e; omega
      · exact h2 p (by omega)
theorem dpM_at (f : Nat → Int) : ∀ n, dpM f n < 1000000 → ∃ p, p < n ∧ f p = dpM f n
  | 0, h => absurd h (by unfold dpM; omega)
  | n + 1, h => by
    unfold dpM at h ⊢
    split
    · exact ⟨n, by omega, rfl⟩
    · rename_i hc
      rw [if_neg hc] at h
      obtain ⟨p, h1, h2⟩ := dpM_at f n h
      exact ⟨p, by omega, h2⟩
def dpF (mb : Nat → Nat → Bool) (ct : Nat → Nat → Int) (rec : Nat → Nat → Int) (i s p : Nat) : Int := if okp mb i s p && decide (rec (i + 1) (stp s p) < 1000000) then rec (i + 1) (stp s p) + ct i p else 1000000
def dpD (mb : Nat → Nat → Bool) (ct : Nat → Nat → Int) : Nat → Nat → Nat → Int
  | 0, _, _ => 0
  | r + 1, i, s => dpM (dpF mb ct (dpD mb ct r) i s) 15
def fitP (mb : Nat → Nat → Bool) (ct : Nat → Nat → Int) (r i s p : Nat) : Prop := okp mb i s p = true ∧ dpD mb ct r (i + 1) (stp s p) < 1000000 ∧ dpD mb ct r (i + 1) (stp s p) + ct i p = dpD mb ct (r + 1) i s
def sA (a : Nat → Nat) : Nat → Nat
  | 0 => 0
  | i + 1 => stp (sA a i) (a i)
def Vd (pt : Nat) (mb : Nat → Nat → Bool) (a : Nat → Nat) : Prop := ∀ i, i < pt → a i < 15 ∧ okp mb i (sA a i) (a i) = true
def GR (pt : Nat) (mb : Nat → Nat → Bool) (ct : Nat → Nat → Int) (g : Nat → Nat) : Prop := ∀ i r, i + r + 1 = pt → g i < 15 ∧ fitP mb ct r i (sA g i) (g i) ∧ ∀ q, q < g i → ¬ fitP mb ct r i (sA g i) q
section DP
variable {pt : Nat} {mb : Nat → Nat → Bool} {ct : Nat → Nat → Int} {a b g : Nat → Nat}
theorem dp_step (r i s : Nat) {p : Nat} (hp : p < 15) (h1 : okp mb i s p = true) (h2 : dpD mb ct r (i + 1) (stp s p) < 1000000) : dpD mb ct (r + 1) i s ≤ dpD mb ct r (i + 1) (stp s p) + ct i p := by
  have h := (dpM_le (dpF mb ct (dpD mb ct r) i s) 15).2 p hp
  unfold dpF at h
  rw [h1, decide_eq_true h2] at h
  exact h
theorem dp_fit (r i s : Nat) (hct : ∀ i p, 0 ≤ ct i p ∧ ct i p ≤ 1000) (h : dpD mb ct (r + 1) i s < 1000000) : ∃ p, p < 15 ∧ fitP mb ct r i s p := by
  obtain ⟨p, hp, e⟩ := dpM_at _ 15 h
  have e : dpF mb ct (dpD mb ct r) i s p = dpD mb ct (r + 1) i s := e
  refine ⟨p, hp, ?_⟩
  unfold dpF at e
  split at e
  · rename_i hc
    rw [Bool.and_eq_true, decide_eq_true_iff] at hc
    exact ⟨hc.1, hc.2, e⟩
  · omega
theorem dp_bd (hct : ∀ i p, 0 ≤ ct i p ∧ ct i p ≤ 1000) : ∀ r i s, 0 ≤ dpD mb ct r i s ∧ dpD mb ct r i s ≤ 1000000 ∧ (dpD mb ct r i s < 1000000 → dpD mb ct r i s ≤ 1000 * (r : Int))
  | 0, i, s => by unfold dpD; omega
  | r + 1, i, s => by
    have h1 := (dpM_le (dpF mb ct (dpD mb ct r) i s) 15).1
    have h1 : dpD mb ct (r + 1) i s ≤ 1000000 := h1
    by_cases c : dpD mb ct (r + 1) i s < 1000000
    · obtain ⟨p, hp, f1, f2, f3⟩ := dp_fit r i s hct c
      have h2 := dp_bd hct r (i + 1) (stp s p)
      have h3 := hct i p
      refine ⟨by omega, h1, fun _ => ?_⟩
      have := h2.2.2 f2
      omega
    · exact ⟨by omega, h1, fun e => absurd e c⟩
/-- no seating has less -/
theorem vd_le (hpt : pt ≤ 10) (hct : ∀ i p, 0 ≤ ct i p ∧ ct i p ≤ 1000) (hv : Vd pt mb a) : ∀ r i, i + r = pt → dpD mb ct r i (sA a i) ≤ sfx (fun j => ct j (a j)) i r ∧ sfx (fun j => ct j (a j)) i r ≤ 10000
  | 0, i, _ => by unfold dpD sfx; omega
  | r + 1, i, h => by
    obtain ⟨h1, _⟩ := vd_le hpt hct hv r (i + 1) (by omega)
    have hb := sfx_bd (f := fun j => ct j (a j)) (b := 1000) (by omega) (r + 1) i (fun j _ _ => hct j (a j))
    have hb2 := sfx_bd (f := fun j => ct j (a j)) (b := 1000) (by omega) r (i + 1) (fun j _ _ => hct j (a j))
    obtain ⟨v1, v2⟩ := hv i (by omega)
    have h1 : dpD mb ct r (i + 1) (stp (sA a i) (a i)) ≤ _ := h1
    have h2 := dp_step (ct := ct) r i (sA a i) v1 v2 (by omega)
    refine ⟨?_, by omega⟩
    show _ ≤ ct i (a i) + sfx (fun j => ct j (a j)) (i + 1) r
    omega
theorem gr_vd (hg : GR pt mb ct g) : Vd pt mb g := fun i hi => by
  obtain ⟨h1, h2, _⟩ := hg i (pt - (i + 1)) (by omega)
  exact ⟨h1, h2.1⟩
theorem gr_eq (hg : GR pt mb ct g) : ∀ r i, i + r = pt → dpD mb ct r i (sA g i) = sfx (fun j => ct j (g j)) i r
  | 0, i, _ => rfl
  | r + 1, i, h => by
    have h1 := gr_eq hg r (i + 1) (by omega)
    obtain ⟨_, h2, _⟩ := hg i r (by omega)
    have h3 := h2.2.2
    have h1 : dpD mb ct r (i + 1) (stp (sA g i) (g i)) = _ := h1
    show _ = ct i (g i) + sfx (fun j => ct j (g j)) (i + 1) r
    omega
theorem sA_cg : ∀ i, (∀ j, j < i → a j = b j) → sA a i = sA b i
  | 0, _ => rfl
  | i + 1, h => by
    show stp (sA a i) (a i) = stp (sA b i) (b i)
    rw [sA_cg i (fun j hj => h j (by omega)), h i (by omega)]
theorem gr_opt (hpt : pt ≤ 10) (hct : ∀ i p, 0 ≤ ct i p ∧ ct i p ≤ 1000) (hg : GR pt mb ct g) (hv : Vd pt mb a) : sumN (fun j => ct j (g j)) pt ≤ sumN (fun j => ct j (a j)) pt := by
  have h1 := gr_eq hg pt 0 (by omega)
  have h2 := (vd_le hpt hct hv pt 0 (by omega)).1
  have h3 := sum_sfx (fun j => ct j (g j)) pt 0
  have h4 := sum_sfx (fun j => ct j (a j)) pt 0
  rw [Nat.zero_add] at h3 h4
  have z1 : sumN (fun j => ct j (g j)) 0 = 0 := rfl
  have z2 : sumN (fun j => ct j (a j)) 0 = 0 := rfl
  have h1 : dpD mb ct pt 0 0 = _ := h1
  have h2 : dpD mb ct pt 0 0 ≤ _ := h2
  omega
/-- of equal ones it is the first -/
theorem gr_first (hpt : pt ≤ 10) (hct : ∀ i p, 0 ≤ ct i p ∧ ct i p ≤ 1000) (hg : GR pt mb ct g) (hv : Vd pt mb a) (he : sumN (fun j => ct j (a j)) pt = sumN (fun j => ct j (g j)) pt) {i : Nat} (hi : i < pt) (hpre : ∀ j, j < i → a j = g j) : g i ≤ a i := by
  obtain ⟨r, hr⟩ : ∃ r, i + r + 1 = pt := ⟨pt - (i + 1), by omega⟩
  obtain ⟨g1, g2, g3⟩ := hg i r hr
  have hs : sA a i = sA g i := sA_cg i hpre
  have e1 := gr_eq hg (r + 1) i (by omega)
  have e2 := vd_le hpt hct hv (r + 1) i (by omega)
  have e3 := vd_le hpt hct hv r (i + 1) (by omega)
  have s1 := sum_sfx (fun j => ct j (g j)) (r + 1) i
  have s2 := sum_sfx (fun j => ct j (a j)) (r + 1) i
  rw [show i + (r + 1) = pt by omega] at s1 s2
  have s3 : sumN (fun j => ct j (a j)) i = sumN (fun j => ct j (g j)) i := sum_cg i (fun j hj => by rw [hpre j hj])
  have s4 : sfx (fun j => ct j (a j)) i (r + 1) = ct i (a i) + sfx (fun j => ct j (a j)) (i + 1) r := rfl
  obtain ⟨v1, v2⟩ := hv i hi
  rw [hs] at v2
  have e3' : dpD mb ct r (i + 1) (stp (sA g i) (a i)) ≤ sfx (fun j => ct j (a j)) (i + 1) r := by rw [← hs]; exact e3.1
  have hlt : dpD mb ct r (i + 1) (stp (sA g i) (a i)) < 1000000 := by omega
  have e4 := dp_step (ct := ct) r i (sA g i) v1 v2 hlt
  rcases Nat.lt_or_ge (a i) (g i) with h | h
  · exact absurd ⟨v2, hlt, by omega⟩ (g3 (a i) h)
  · exact h
end DP
/-! the players as digits -/
def dgt (i : Nat) : Int := dg1.getD i 0
theorem dg_s : ∀ i, i < 9 → dgt i = 15 * dgt (i + 1) := by decide
theorem dg_p : ∀ i, i < 10 → 1 ≤ dgt i ∧ dgt i ≤ 38443359375 := by decide
theorem dg_sfx {a : Nat → Nat} (ha : ∀ j, a j < 15) : ∀ r i, i + r ≤ 10 → i < 10 → 0 ≤ sfx (fun j => (a j : Int) * dgt j) i r ∧ sfx (fun j => (a j : Int) * dgt j) i r < 15 * dgt i
  | 0, i, _, hi => by
    have := dg_p i hi
    unfold sfx; omega
  | r + 1, i, h, hi => by
    have h1 := dg_p i hi
    have h2 := ha i
    have h3 : (a i : Int) * dgt i ≤ 14 * dgt i := Int.mul_le_mul_of_nonneg_right (by omega) (by omega)
    have h4 : 0 ≤ (a i : Int) * dgt i := Int.mul_nonneg (by omega) (by omega)
    show 0 ≤ (a i : Int) * dgt i + sfx (fun j => (a j : Int) * dgt j) (i + 1) r ∧ (a i : Int) * dgt i + sfx (fun j => (a j : Int) * dgt j) (i + 1) r < 15 * dgt i
    by_cases e : i = 9
    · subst e
      have : r = 0 := by omega
      subst this
      have z : sfx (fun j => (a j : Int) * dgt j) (9 + 1) 0 = 0 := rfl
      omega
    · have h5 := dg_sfx ha r (i + 1) (by omega) (by omega)
      have h6 := dg_s i (by omega)
      omega
/-- the sum of the digits of a seating -/
def dgS (a : Nat → Nat) (pt : Nat) : Int := sumN (fun j => (a j : Int) * dgt j) pt
theorem dgS_b {a : Nat → Nat} (ha : ∀ j, a j < 15) {pt : Nat} (hpt : pt ≤ 10) : 0 ≤ dgS a pt ∧ dgS a pt < 576650390625 := by
  have h := dg_sfx ha pt 0 (by omega) (by omega)
  have h2 := sum_sfx (fun j => (a j : Int) * dgt j) pt 0
  rw [Nat.zero_add] at h2
  have z : sumN (fun j => (a j : Int) * dgt j) 0 = 0 := rfl
  have e : dgt 0 = 38443359375 := rfl
  unfold dgS
  omega
theorem dgS_lt {a b : Nat → Nat} (ha : ∀ j, a j < 15) (hb : ∀ j, b j < 15) {pt i : Nat} (hpt : pt ≤ 10) (hi : i < pt) (hpre : ∀ j, j < i → a j = b j) (hlt : a i < b i) : dgS a pt < dgS b pt := by
  obtain ⟨r, hr⟩ : ∃ r, i + (r + 1) = pt := ⟨pt - (i + 1), by omega⟩
  have s1 := sum_sfx (fun j => (a j : Int) * dgt j) (r + 1) i
  have s2 := sum_sfx (fun j => (b j : Int) * dgt j) (r + 1) i
  rw [hr] at s1 s2
  have s3 : sumN (fun j => (a j : Int) * dgt j) i = sumN (fun j => (b j : Int) * dgt j) i := sum_cg i (fun j hj => by rw [hpre j hj])
  have s4 : sfx (fun j => (a j : Int) * dgt j) i (r + 1) = (a i : Int) * dgt i + sfx (fun j => (a j : Int) * dgt j) (i + 1) r := rfl
  have s5 : sfx (fun j => (b j : Int) * dgt j) i (r + 1) = (b i : Int) * dgt i + sfx (fun j => (b j : Int) * dgt j) (i + 1) r := rfl
  have h1 := dg_p i (by omega)
  have h2 : (a i : Int) * dgt i + dgt i ≤ (b i : Int) * dgt i := by
    have : ((a i : Int) + 1) * dgt i ≤ (b i : Int) * dgt i := Int.mul_le_mul_of_nonneg_right (by omega) (by omega)
    rw [Int.add_mul] at this; omega
  unfold dgS
  by_cases e : i = 9
  · have : r = 0 := by omega
    subst this
    have z1 : sfx (fun j => (a j : Int) * dgt j) (i + 1) 0 = 0 := rfl
    have z2 : sfx (fun j => (b j : Int) * dgt j) (i + 1) 0 = 0 := rfl
    omega
  · have h5 := dg_sfx ha r (i + 1) (by omega) (by omega)
    have h6 := dg_sfx hb r (i + 1) (by omega) (by omega)
    have h7 := dg_s i (by omega)
    omega
/-- what is lightest is the first of the best -/
theorem best_eq {pt : Nat} {mb : Nat → Nat → Bool} {ct k : Nat → Nat → Int} {a g : Nat → Nat} (hpt : pt ≤ 10) (hct : ∀ i p, 0 ≤ ct i p ∧ ct i p ≤ 1000) (hg : GR pt mb ct g) (hv : Vd pt mb a) (ha15 : ∀ j, a j < 15) (hg15 : ∀ j, g j < 15) (hmin : sumN (fun i => k i (a i) * 576650390625 + (a i : Int) * dgt i) pt ≤ sumN (fun i => k i (g i) * 576650390625 + (g i : Int) * dgt i) pt) (hk : sumN (fun i => k i (a i)) pt ≤ sumN (fun i => k i (g i)) pt → sumN (fun i => ct i (a i)) pt ≤ sumN (fun i => ct i (g i)) pt) (hk2 : sumN (fun i => ct i (a i)) pt = sumN (fun i => ct i (g i)) pt → sumN (fun i => k i (a i)) pt = sumN (fun i => k i (g i)) pt) : ∀ i, i < pt → a i = g i := by
  rw [sum_add, sum_add, sum_mul, sum_mul] at hmin
  have ba := dgS_b ha15 hpt
  have bg := dgS_b hg15 hpt
  unfold dgS at ba bg
  have h1 : sumN (fun i => k i (a i)) pt ≤ sumN (fun i => k i (g i)) pt := by omega
  have h2 := gr_opt hpt hct hg hv
  have h3 := hk h1
  have h4 : sumN (fun i => ct i (a i)) pt = sumN (fun i => ct i (g i)) pt := by omega
  have h5 := hk2 h4
  have h6 : dgS a pt ≤ dgS g pt := by unfold dgS; omega
  intro i
  induction i using Nat.strongRecOn with
  | _ i ih =>
    intro hi
    have hpre : ∀ j, j < i → a j = g j := fun j hj => ih j hj (by omega)
    have h7 := gr_first hpt hct hg hv h4 hi hpre
    rcases Nat.lt_or_ge (g i) (a i) with h | h
    · have := dgS_lt hg15 ha15 hpt hi (fun j hj => (hpre j hj).symm) h
      omega
    · omega

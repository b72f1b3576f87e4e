/-! TOKENS: what stands at a place -/
def isBl (x : Int) : Bool := decide (x = 32) || decide (x = 10)
def isSm (x : Int) : Bool := decide (97 ≤ x) && decide (x ≤ 122)
def isDg (x : Int) : Bool := decide (48 ≤ x) && decide (x ≤ 57)
def scF (n : Nat) (b : Nat → Int) (P : Int → Bool) : Nat → Nat → Nat
  | 0, p => p
  | f + 1, p => if decide (p < n) && P (b p) then scF n b P f (p + 1) else p
theorem scF_fu {n : Nat} {b : Nat → Int} {P : Int → Bool} : ∀ f p, n ≤ p + f → scF n b P (f + 1) p = scF n b P f p
  | 0, p, h => by
    show (if decide (p < n) && P (b p) then _ else p) = p
    rw [decide_eq_false (by omega)]; rfl
  | f + 1, p, h => by
    show (if decide (p < n) && P (b p) then scF n b P (f + 1) (p + 1) else p) = (if decide (p < n) && P (b p) then scF n b P f (p + 1) else p)
    rw [scF_fu f (p + 1) (by omega)]
/-- as far as it goes on -/
def sc (n : Nat) (b : Nat → Int) (P : Int → Bool) (p : Nat) : Nat := scF n b P 800 p
section SC
variable {n : Nat} {b : Nat → Int} {P : Int → Bool} {p : Nat}
theorem sc_no (h : ¬ (p < n ∧ P (b p) = true)) : sc n b P p = p := by
  show (if decide (p < n) && P (b p) then scF n b P 799 (p + 1) else p) = p
  rw [if_neg (fun e => h (by rw [Bool.and_eq_true, decide_eq_true_iff] at e; exact e))]
theorem sc_yes (hn : n ≤ 800) (h : p < n) (hP : P (b p) = true) : sc n b P p = sc n b P (p + 1) := by
  have e : sc n b P p = scF n b P 799 (p + 1) := by
    show (if decide (p < n) && P (b p) then scF n b P 799 (p + 1) else p) = _
    rw [decide_eq_true h, hP]; rfl
  rw [e]
  exact (scF_fu 799 (p + 1) (by omega)).symm
theorem sc_ind (hn : n ≤ 800) : ∀ q p, n ≤ p + q → (p ≤ sc n b P p) ∧ (p ≤ n → sc n b P p ≤ n) ∧ (∀ i, p ≤ i → i < sc n b P p → i < n ∧ P (b i) = true) ∧ ¬ (sc n b P p < n ∧ P (b (sc n b P p)) = true)
  | 0, p, h => by
    have h1 : ¬ (p < n ∧ P (b p) = true) := by omega
    rw [sc_no h1]
    exact ⟨Nat.le_refl _, fun h => h, fun i a1 a2 => by omega, h1⟩
  | q + 1, p, h => by
    by_cases c : p < n ∧ P (b p) = true
    · rw [sc_yes hn c.1 c.2]
      obtain ⟨h1, h2, h3, h4⟩ := sc_ind hn q (p + 1) (by omega)
      refine ⟨by omega, fun _ => h2 (by omega), fun i a1 a2 => ?_, h4⟩
      by_cases e : i = p
      · rw [e]; exact c
      · exact h3 i (by omega) a2
    · rw [sc_no c]
      exact ⟨Nat.le_refl _, fun h => h, fun i a1 a2 => by omega, c⟩
theorem sc_ge (hn : n ≤ 800) : p ≤ sc n b P p := (sc_ind hn n p (by omega)).1
theorem sc_le (hn : n ≤ 800) (h : p ≤ n) : sc n b P p ≤ n := (sc_ind hn n p (by omega)).2.1 h
theorem sc_all (hn : n ≤ 800) {i : Nat} (h1 : p ≤ i) (h2 : i < sc n b P p) : i < n ∧ P (b i) = true := (sc_ind hn n p (by omega)).2.2.1 i h1 h2
theorem sc_end (hn : n ≤ 800) : ¬ (sc n b P p < n ∧ P (b (sc n b P p)) = true) := (sc_ind hn n p (by omega)).2.2.2
end SC
/-- the letters from p on, len of them -/
def lsB (b : Nat → Int) (p len : Nat) : List Int := (List.range len).map (fun i => b (p + i))
/-- a number's worth -/
def dvB (b : Nat → Int) (p : Nat) : Nat → Int
  | 0 => 0
  | j + 1 => dvB b p j * 10 + (b (p + j) - 48)
def v5B (b : Nat → Int) (p : Nat) : Nat → Int
  | 0 => 0
  | j + 1 => v5B b p j * 32 + (b (p + j) - 96)
def v8B (b : Nat → Int) (p : Nat) : Nat → Int
  | 0 => 0
  | j + 1 => v8B b p j * 256 + b (p + j)
theorem lsB_s (b : Nat → Int) (p j : Nat) : lsB b p (j + 1) = lsB b p j ++ [b (p + j)] := by unfold lsB; rw [List.range_succ, List.map_append]; rfl
theorem c5_ls (b : Nat → Int) (p : Nat) : ∀ j, c5 (lsB b p j) = v5B b p j
  | 0 => rfl
  | j + 1 => by
    have h := c5_ls b p j
    unfold c5 at h ⊢
    rw [lsB_s, List.foldl_append, h]; rfl
theorem c8_ls (b : Nat → Int) (p : Nat) : ∀ j, c8 (lsB b p j) = v8B b p j
  | 0 => rfl
  | j + 1 => by
    have h := c8_ls b p j
    unfold c8 at h ⊢
    rw [lsB_s, List.foldl_append, h]; rfl
theorem ls_len (b : Nat → Int) (p j : Nat) : (lsB b p j).length = j := by unfold lsB; rw [List.length_map, List.length_range]
/-- names are told apart by their numbers -/
theorem foldr_nn {B o : Int} (hB : 26 < B) (ho : ∀ x : Int, 97 ≤ x → x ≤ 122 → 1 ≤ x - o ∧ x - o < B) : ∀ (l : List Int), (∀ x ∈ l, 97 ≤ x ∧ x ≤ 122) → 0 ≤ l.foldr (fun x a => a * B + (x - o)) 0
  | [], _ => Int.le_refl 0
  | x :: l, hl => by
    have h1 := foldr_nn hB ho l (fun x hx => hl x (List.mem_cons_of_mem _ hx))
    have h2 := hl x List.mem_cons_self
    have h3 := ho x h2.1 h2.2
    have h4 : 0 ≤ l.foldr (fun x a => a * B + (x - o)) 0 * B := Int.mul_nonneg h1 (by omega)
    show 0 ≤ l.foldr (fun x a => a * B + (x - o)) 0 * B + (x - o)
    omega
theorem foldr_inj {B o : Int} (hB : 26 < B) (ho : ∀ x : Int, 97 ≤ x → x ≤ 122 → 1 ≤ x - o ∧ x - o < B) : ∀ (l k : List Int), (∀ x ∈ l, 97 ≤ x ∧ x ≤ 122) → (∀ x ∈ k, 97 ≤ x ∧ x ≤ 122) → l.foldr (fun x a => a * B + (x - o)) 0 = k.foldr (fun x a => a * B + (x - o)) 0 → l = k
  | [], [], _, _, _ => rfl
  | [], y :: k, _, hk, e => by
    have h1 := foldr_nn hB ho k (fun x hx => hk x (List.mem_cons_of_mem _ hx))
    have h2 := hk y List.mem_cons_self
    have h3 := ho y h2.1 h2.2
    have e : (0 : Int) = k.foldr (fun x a => a * B + (x - o)) 0 * B + (y - o) := e
    have h4 : 0 ≤ k.foldr (fun x a => a * B + (x - o)) 0 * B := Int.mul_nonneg h1 (by omega)
    omega
  | x :: l, [], hl, _, e => by
    have h1 := foldr_nn hB ho l (fun x hx => hl x (List.mem_cons_of_mem _ hx))
    have h2 := hl x List.mem_cons_self
    have h3 := ho x h2.1 h2.2
    have h4 : 0 ≤ l.foldr (fun x a => a * B + (x - o)) 0 * B := Int.mul_nonneg h1 (by omega)
    have e : l.foldr (fun x a => a * B + (x - o)) 0 * B + (x - o) = 0 := e
    omega
  | x :: l, y :: k, hl, hk, e => by
    have ih := foldr_inj hB ho l k (fun x hx => hl x (List.mem_cons_of_mem _ hx)) (fun x hx => hk x (List.mem_cons_of_mem _ hx))
    have h2 := hl x List.mem_cons_self
    have h3 := ho x h2.1 h2.2
    have h5 := hk y List.mem_cons_self
    have h6 := ho y h5.1 h5.2
    have e : l.foldr (fun x a => a * B + (x - o)) 0 * B + (x - o) = k.foldr (fun x a => a * B + (x - o)) 0 * B + (y - o) := e
    generalize l.foldr (fun x a => a * B + (x - o)) 0 = A at *
    generalize k.foldr (fun x a => a * B + (x - o)) 0 = D at *
    have eA : A = D := by
      rcases Int.lt_trichotomy A D with h | h | h
      · have : (A + 1) * B ≤ D * B := Int.mul_le_mul_of_nonneg_right (by omega) (by omega)
        rw [Int.add_mul] at this; omega
      · exact h
      · have : (D + 1) * B ≤ A * B := Int.mul_le_mul_of_nonneg_right (by omega) (by omega)
        rw [Int.add_mul] at this; omega
    have hlk := ih eA
    rw [hlk, show x = y by rw [eA] at e; omega]
theorem rev_inj {l k : List Int} (h : l.reverse = k.reverse) : l = k := by
  have := congrArg List.reverse h
  rw [List.reverse_reverse, List.reverse_reverse] at this; exact this
theorem c8_inj {l k : List Int} (hl : ∀ x ∈ l, 97 ≤ x ∧ x ≤ 122) (hk : ∀ x ∈ k, 97 ≤ x ∧ x ≤ 122) (e : c8 l = c8 k) : l = k := by
  have r : ∀ l : List Int, c8 l = l.reverse.foldr (fun x a => a * 256 + (x - 0)) 0 := fun l => by
    rw [List.foldr_reverse]; unfold c8
    congr 1; funext a x; omega
  rw [r l, r k] at e
  exact rev_inj (foldr_inj (by decide) (fun x a1 a2 => by omega) l.reverse k.reverse (fun x hx => hl x (List.mem_reverse.mp hx)) (fun x hx => hk x (List.mem_reverse.mp hx)) e)
theorem c5_inj {l k : List Int} (hl : ∀ x ∈ l, 97 ≤ x ∧ x ≤ 122) (hk : ∀ x ∈ k, 97 ≤ x ∧ x ≤ 122) (e : c5 l = c5 k) : l = k := by
  have r : ∀ l : List Int, c5 l = l.reverse.foldr (fun x a => a * 32 + (x - 96)) 0 := fun l => by
    rw [List.foldr_reverse]; rfl
  rw [r l, r k] at e
  exact rev_inj (foldr_inj (by decide) (fun x a1 a2 => by omega) l.reverse k.reverse (fun x hx => hl x (List.mem_reverse.mp hx)) (fun x hx => hk x (List.mem_reverse.mp hx)) e)
/-! the token at a place: where it begins, where it ends, what it is
(0 the end, 1 none, 2 letters, 3 a NUMBER, 4 a byte of its own) -/
def tPl (n : Nat) (b : Nat → Int) (p : Nat) : Nat := sc n b isBl p
def tEn (n : Nat) (b : Nat → Int) (p : Nat) : Nat := if n ≤ tPl n b p then tPl n b p else if isSm (b (tPl n b p)) then sc n b isSm (tPl n b p) else if isDg (b (tPl n b p)) then sc n b isDg (tPl n b p) else tPl n b p + 1
def tTg (n : Nat) (b : Nat → Int) (dg p : Nat) : Nat := if n ≤ tPl n b p then 0 else if isSm (b (tPl n b p)) then (if sc n b isSm (tPl n b p) - tPl n b p ≤ 6 then 2 else 1) else if isDg (b (tPl n b p)) then (if sc n b isDg (tPl n b p) - tPl n b p ≤ dg then 3 else 1) else 4
def tLs (n : Nat) (b : Nat → Int) (p : Nat) : List Int := lsB b (tPl n b p) (tEn n b p - tPl n b p)
def tVl (n : Nat) (b : Nat → Int) (p : Nat) : Int := dvB b (tPl n b p) (tEn n b p - tPl n b p)
def tBy (n : Nat) (b : Nat → Int) (p : Nat) : Int := b (tPl n b p)
section TK2
variable {n : Nat} {b : Nat → Int} {dg p : Nat}
theorem t_pl (hn : n ≤ 800) : p ≤ tPl n b p := sc_ge hn
theorem t_pln (hn : n ≤ 800) (h : p ≤ n) : tPl n b p ≤ n := sc_le hn h
theorem t_en (hn : n ≤ 800) (h : p ≤ n) : tPl n b p ≤ tEn n b p ∧ tEn n b p ≤ n ∧ (tPl n b p < n → tPl n b p < tEn n b p) := by
  have h1 := t_pln (b := b) hn h
  unfold tEn
  split
  · exact ⟨Nat.le_refl _, h1, fun e => by omega⟩
  · rename_i hc
    split
    · rename_i hs
      refine ⟨sc_ge hn, sc_le hn h1, fun _ => ?_⟩
      rw [sc_yes hn (by omega) hs]
      have := sc_ge (n := n) (b := b) (P := isSm) (p := tPl n b p + 1) hn
      omega
    · split
      · rename_i hs
        refine ⟨sc_ge hn, sc_le hn h1, fun _ => ?_⟩
        rw [sc_yes hn (by omega) hs]
        have := sc_ge (n := n) (b := b) (P := isDg) (p := tPl n b p + 1) hn
        omega
      · exact ⟨by omega, by omega, fun _ => by omega⟩
theorem t_0 (h : tTg n b dg p = 0) : n ≤ tPl n b p := by
  unfold tTg at h
  split at h
  · assumption
  · split at h
    · split at h <;> cases h
    · split at h
      · split at h <;> cases h
      · cases h
theorem t_n0 (h : tTg n b dg p ≠ 0) : tPl n b p < n := by
  rcases Nat.lt_or_ge (tPl n b p) n with h1 | h1
  · exact h1
  · exact absurd (by unfold tTg; rw [if_pos h1]) h
/-- a token of letters -/
theorem t_2 (hn : n ≤ 800) (h : tTg n b dg p = 2) : tPl n b p < n ∧ isSm (b (tPl n b p)) = true ∧ tEn n b p = sc n b isSm (tPl n b p) ∧ tEn n b p - tPl n b p ≤ 6 ∧ OKn (tLs n b p) := by
  have h1 := t_n0 (show tTg n b dg p ≠ 0 by omega)
  have h2 : isSm (b (tPl n b p)) = true ∧ sc n b isSm (tPl n b p) - tPl n b p ≤ 6 := by
    unfold tTg at h
    rw [if_neg (by omega)] at h
    split at h
    · rename_i hs
      split at h
      · rename_i h6; exact ⟨hs, h6⟩
      · cases h
    · split at h
      · split at h <;> cases h
      · cases h
  have h3 : tEn n b p = sc n b isSm (tPl n b p) := by unfold tEn; rw [if_neg (by omega), if_pos h2.1]
  refine ⟨h1, h2.1, h3, by rw [h3]; exact h2.2, by unfold tLs; rw [ls_len, h3]; exact h2.2, fun x hx => ?_⟩
  unfold tLs lsB at hx
  rw [List.mem_map] at hx
  obtain ⟨i, hi, rfl⟩ := hx
  rw [List.mem_range, h3] at hi
  have := (sc_all (n := n) (b := b) (P := isSm) hn (show tPl n b p ≤ tPl n b p + i by omega) (by omega)).2
  unfold isSm at this
  rw [Bool.and_eq_true, decide_eq_true_iff, decide_eq_true_iff] at this
  exact this
theorem t_3 (hn : n ≤ 800) (h : tTg n b dg p = 3) : tPl n b p < n ∧ isSm (b (tPl n b p)) = false ∧ isDg (b (tPl n b p)) = true ∧ tEn n b p = sc n b isDg (tPl n b p) ∧ tEn n b p - tPl n b p ≤ dg := by
  have h1 := t_n0 (show tTg n b dg p ≠ 0 by omega)
  unfold tTg at h
  rw [if_neg (by omega)] at h
  cases hs : isSm (b (tPl n b p)) with
  | true => rw [hs, if_pos rfl] at h; split at h <;> cases h
  | false =>
    rw [hs, if_neg (by decide)] at h
    cases hd : isDg (b (tPl n b p)) with
    | false => rw [hd, if_neg (by decide)] at h; cases h
    | true =>
      rw [hd, if_pos rfl] at h
      have h3 : tEn n b p = sc n b isDg (tPl n b p) := by unfold tEn; rw [if_neg (by omega), hs, if_neg (by decide), hd, if_pos rfl]
      split at h
      · rename_i h6; exact ⟨h1, rfl, rfl, h3, by rw [h3]; exact h6⟩
      · cases h
theorem t_4 (h : tTg n b dg p = 4) : tPl n b p < n ∧ isSm (b (tPl n b p)) = false ∧ isDg (b (tPl n b p)) = false ∧ tEn n b p = tPl n b p + 1 := by
  have h1 := t_n0 (show tTg n b dg p ≠ 0 by omega)
  unfold tTg at h
  rw [if_neg (by omega)] at h
  cases hs : isSm (b (tPl n b p)) with
  | true => rw [hs, if_pos rfl] at h; split at h <;> cases h
  | false =>
    rw [hs, if_neg (by decide)] at h
    cases hd : isDg (b (tPl n b p)) with
    | true => rw [hd, if_pos rfl] at h; split at h <;> cases h
    | false => exact ⟨h1, rfl, rfl, by unfold tEn; rw [if_neg (by omega), hs, if_neg (by decide), hd, if_neg (by decide)]⟩
end TK2

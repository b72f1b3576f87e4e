/-! no other choice of columns is lighter -/
theorem sum_rm {f : Nat → Int} {x : Nat} : ∀ N, x < N → sumN f N = sumN (fun c => if c = x then 0 else f c) N + f x
  | 0, h => absurd h (Nat.not_lt_zero x)
  | N + 1, h => by
    show sumN f N + f N = sumN (fun c => if c = x then 0 else f c) N + (if N = x then 0 else f N) + f x
    by_cases e : N = x
    · subst e
      rw [if_pos rfl, sum_cg (f := fun c => if c = N then 0 else f c) (g := f) N (fun i hi => if_neg (by omega))]
      omega
    · have := sum_rm (f := f) (x := x) N (by omega)
      rw [if_neg e]; omega
theorem inj_ge {N : Nat} : ∀ (R : Nat) (f : Nat → Int) (b : Nat → Nat), (∀ c, f c ≤ 0) → (∀ i, i < R → b i < N) → (∀ i j, i < R → j < R → b i = b j → i = j) → sumN f N ≤ sumN (fun i => f (b i)) R
  | 0, f, b, hf, _, _ => by
    have h := sum_le (f := f) (g := fun _ => 0) N (fun i _ => hf i)
    have z : ∀ n, sumN (fun _ => (0 : Int)) n = 0 := by
      intro n
      induction n with
      | zero => rfl
      | succ n ih => show sumN (fun _ => (0 : Int)) n + 0 = 0; omega
    rw [z] at h; exact h
  | R + 1, f, b, hf, hb, hi => by
    have h1 := sum_rm (f := f) (x := b R) N (hb R (by omega))
    have h2 := inj_ge R (fun c => if c = b R then 0 else f c) b (fun c => by split; exact Int.le_refl 0; exact hf c) (fun i hi' => hb i (by omega)) (fun i j h1 h2 => hi i j (by omega) (by omega))
    have h3 : sumN (fun i => (fun c => if c = b R then 0 else f c) (b i)) R = sumN (fun i => f (b i)) R := sum_cg R (fun i hi' => if_neg (fun e => by have := hi i R (by omega) (by omega) e; omega))
    rw [h3] at h2
    show _ ≤ sumN (fun i => f (b i)) R + f (b R)
    omega
theorem cov_le {N : Nat} : ∀ (R : Nat) (f : Nat → Int) (b : Nat → Nat), (∀ c, f c ≤ 0) → (∀ i, i < R → b i < N) → (∀ c, c < N → f c ≠ 0 → ∃ i, i < R ∧ b i = c) → sumN (fun i => f (b i)) R ≤ sumN f N
  | 0, f, b, hf, _, hc => by
    have h := sum_cg (f := f) (g := fun _ => 0) N (fun i hi => by
      rcases Classical.em (f i = 0) with e | e
      · exact e
      · obtain ⟨j, hj, _⟩ := hc i hi e
        exact absurd hj (Nat.not_lt_zero j))
    have z : ∀ n, sumN (fun _ => (0 : Int)) n = 0 := by
      intro n
      induction n with
      | zero => rfl
      | succ n ih => show sumN (fun _ => (0 : Int)) n + 0 = 0; omega
    rw [z] at h; rw [h]; exact Int.le_refl 0
  | R + 1, f, b, hf, hb, hc => by
    have h1 := sum_rm (f := f) (x := b R) N (hb R (by omega))
    have h2 := cov_le R (fun c => if c = b R then 0 else f c) b (fun c => by split; exact Int.le_refl 0; exact hf c) (fun i hi' => hb i (by omega)) (fun c hcN hne => by
      by_cases e : c = b R
      · simp [e] at hne
      · rw [if_neg e] at hne
        obtain ⟨i, hi, e2⟩ := hc c hcN hne
        refine ⟨i, ?_, e2⟩
        rcases Nat.lt_or_ge i R with h | h
        · exact h
        · exact absurd (by rw [← e2, show i = R by omega]) e)
    have h3 : sumN (fun i => f (b i)) R ≤ sumN (fun i => if b i = b R then 0 else f (b i)) R := sum_le R (fun i _ => by
      show f (b i) ≤ if b i = b R then 0 else f (b i)
      split
      · exact hf _
      · exact Int.le_refl _)
    show sumN (fun i => f (b i)) R + f (b R) ≤ _
    omega
section OP
variable {C R : Nat} {W : Nat → Nat → Int} {u v sl : Nat → Int} {ro cf : Nat → Nat} {M : Mm}
theorem mat_opt (h : MatI C R R W u v ro) {col b : Nat → Nat} (hcol : ∀ i, i < R → 1 ≤ col i ∧ col i ≤ C ∧ ro (col i) = i + 1) (hb : ∀ i, i < R → 1 ≤ b i ∧ b i ≤ C) (hbi : ∀ i j, i < R → j < R → b i = b j → i = j) : sumN (fun i => W (i + 1) (col i)) R ≤ sumN (fun i => W (i + 1) (b i)) R := by
  obtain ⟨i1, i2, i3, i4, i5, i6, i7, i8, i9⟩ := h
  have h1 : sumN (fun i => W (i + 1) (col i)) R = sumN (fun i => u (i + 1)) R + sumN (fun i => v (col i)) R := by
    rw [← sum_add]
    refine sum_cg R (fun i hi => ?_)
    obtain ⟨c1, c2, c3⟩ := hcol i hi
    have := i5 (col i) c1 c2 (by omega)
    rw [c3] at this
    exact this.symm
  have h2 : sumN (fun i => u (i + 1)) R + sumN (fun i => v (b i)) R ≤ sumN (fun i => W (i + 1) (b i)) R := by
    rw [← sum_add]
    refine sum_le R (fun i hi => ?_)
    exact i4 (i + 1) (b i) (by omega) (by omega) (hb i hi).1 (hb i hi).2
  -- the columns' prices
  have hf : ∀ c, (if 1 ≤ c ∧ c ≤ C then v c else 0) ≤ 0 := fun c => by
    split
    · rename_i h; exact (i7 c h.2).1
    · exact Int.le_refl 0
  have h3 := inj_ge (N := C + 1) R (fun c => if 1 ≤ c ∧ c ≤ C then v c else 0) b hf (fun i hi => by have := hb i hi; omega) hbi
  have h4 := cov_le (N := C + 1) R (fun c => if 1 ≤ c ∧ c ≤ C then v c else 0) col hf (fun i hi => by have := hcol i hi; omega) (fun c hc hne => by
    have hc2 : 1 ≤ c ∧ c ≤ C := by
      rcases Classical.em (1 ≤ c ∧ c ≤ C) with e | e
      · exact e
      · rw [if_neg e] at hne; exact absurd rfl hne
    rw [if_pos hc2] at hne
    have hz : ro c ≠ 0 := fun e => hne (i6 c hc2.1 hc2.2 e)
    have hle := i1 c hc2.1 hc2.2
    obtain ⟨d1, d2, d3⟩ := hcol (ro c - 1) (by omega)
    exact ⟨ro c - 1, by omega, i2 _ c d1 d2 hc2.1 hc2.2 (by omega) (by omega)⟩)
  have h5 : sumN (fun i => (fun c => if 1 ≤ c ∧ c ≤ C then v c else 0) (b i)) R = sumN (fun i => v (b i)) R := sum_cg R (fun i hi => if_pos (hb i hi))
  have h6 : sumN (fun i => (fun c => if 1 ≤ c ∧ c ≤ C then v c else 0) (col i)) R = sumN (fun i => v (col i)) R := sum_cg R (fun i hi => if_pos ⟨(hcol i hi).1, (hcol i hi).2.1⟩)
  rw [h5] at h3
  rw [h6] at h4
  omega
theorem mat_col (h : MatI C R R W u v ro) : ∃ col : Nat → Nat, ∀ i, i < R → 1 ≤ col i ∧ col i ≤ C ∧ ro (col i) = i + 1 := by
  have hall : ∀ i, ∃ c, i < R → 1 ≤ c ∧ c ≤ C ∧ ro c = i + 1 := fun i => by
    by_cases hi : i < R
    · obtain ⟨c, h1, h2, h3⟩ := h.2.2.1 (i + 1) (by omega) (by omega)
      exact ⟨c, fun _ => ⟨h1, h2, h3⟩⟩
    · exact ⟨0, fun e => absurd e hi⟩
  exact ⟨fun i => Classical.choose (hall i), fun i hi => Classical.choose_spec (hall i) hi⟩
/-! match -/
theorem b_match (hs : Sh M) {n : Nat} (hC : C = n + R) (hn : n ≤ 14) (hR10 : R ≤ 10) (hcf : ∀ c, c ≤ 24 → 0 ≤ mg M 71 c) (hWe : ∀ r c, 1 ≤ r → r ≤ 10 → 1 ≤ c → c ≤ 24 → mg M 66 ((r - 1) * 24 + (c - 1)) = W r c) (hW : ∀ r c, 1 ≤ r → r ≤ R → 1 ≤ c → c ≤ C → 0 ≤ W r c ∧ W r c ≤ 5766503906250000) : wp (f_Seater_match M 66 (R : Int) (n : Int)) (fun M' => ∃ (u v sl : Nat → Int) (ro cf : Nat → Nat), HM C W u v sl ro cf M' ∧ MatI C R R W u v ro ∧ Fr WHu M M') := by
  unfold f_Seater_match
  refine wL ?_
  rw [w32_s (by omega) (by omega), show (n : Int) + (R : Int) = (C : Int) by omega, show cI 66 = 65 from rfl]
  have f1 : Fr WHu M (mp M 65 6 (C : Int)) := Fr_mp (Or.inl ⟨rfl, rfl⟩)
  have q6 : mg (mp M 65 6 (C : Int)) 65 6 = (C : Int) := mg_mp_s _ _ _ _
  have o1 : ∀ c x, c ≠ 65 → mg (mp M 65 6 (C : Int)) c x = mg M c x := fun c x hne => mg_mp_n (fun e => hne e.1)
  generalize hM1 : mp M 65 6 (C : Int) = M1 at *
  have s1 := sh_WHu hs f1
  rw [p_65_1 s1]
  refine wI (by decide) (wK (w_fillL M1 68 0 (by rw [show cI 68 = 67 from rfl, n_67 s1]; decide)) (fun M2 ⟨f2, k2⟩ => ?_))
  rw [show cI 68 = 67 from rfl] at f2 k2
  rw [n_67 s1] at k2
  have s2 := sh_WHu hs (Fr_tr f1 (Fr_sub f2 (V := WHu) (fun c x e => Or.inr (by omega))))
  rw [p_65_2 s2]
  refine wI (by decide) (wK (w_fillL M2 69 0 (by rw [show cI 69 = 68 from rfl, n_68 s2]; decide)) (fun M3 ⟨f3, k3⟩ => ?_))
  rw [show cI 69 = 68 from rfl] at f3 k3
  rw [n_68 s2] at k3
  have f3' : Fr WHu M M3 := Fr_tr (Fr_tr f1 (Fr_sub f2 (fun c x e => Or.inr (by omega)))) (Fr_sub f3 (fun c x e => Or.inr (by omega)))
  have s3 := sh_WHu hs f3'
  rw [p_65_4 s3]
  refine wI (by decide) (wK (w_fillI M3 71 0 (by rw [show cI 71 = 70 from rfl, n_70 s3]; decide)) (fun M4 ⟨f4, k4⟩ => ?_))
  rw [show cI 71 = 70 from rfl] at f4 k4
  rw [n_70 s3] at k4
  have f4' : Fr WHu M M4 := Fr_tr f3' (Fr_sub f4 (fun c x e => Or.inr (by omega)))
  have hm4 : HM C W (fun _ => 0) (fun _ => 0) (fun c => mg M 69 c) (fun _ => 0) (fun c => (mg M 71 c).toNat) M4 := by
    have e : ∀ c x, c ≠ 67 → c ≠ 68 → c ≠ 70 → mg M4 c x = mg M1 c x := fun c x h1 h2 h3 => ((f4.1 c x h3).trans (f3.1 c x h2)).trans (f2.1 c x h1)
    refine ⟨by rw [e 65 6 (by decide) (by decide) (by decide)]; exact q6, fun r c a1 a2 a3 a4 => ?_, fun r hr => ?_, fun c hc => ?_, fun c hc => ?_, fun c hc => ?_, fun c hc => ?_⟩
    · rw [e 66 _ (by decide) (by decide) (by decide), o1 66 _ (by decide)]; exact hWe r c a1 a2 a3 a4
    · rw [f4.1 67 r (by omega), f3.1 67 r (by omega)]; exact k2 r (by omega)
    · rw [f4.1 68 c (by omega)]; exact k3 c (by omega)
    · rw [e 69 _ (by decide) (by decide) (by decide), o1 69 _ (by decide)]
    · exact k4 c (by omega)
    · rw [e 71 _ (by decide) (by decide) (by decide), o1 71 _ (by decide)]
      have := hcf c hc
      show mg M 71 c = ((mg M 71 c).toNat : Int)
      omega
  refine wB (wM (wp_loop (fun j s => s.1 = ((j + 1 : Nat) : Int) ∧ ∃ (u v sl : Nat → Int) (ro cf : Nat → Nat), HM C W u v sl ro cf s.2 ∧ MatI C R j W u v ro ∧ Fr WHu M s.2) R (by omega) ⟨rfl, _, _, _, _, _, hm4, ⟨fun c _ _ => Nat.le_refl 0, fun c c' _ _ _ _ _ e => absurd rfl e, fun r h1 h2 => by omega, fun r c a1 a2 a3 a4 => by (have := hW r c a1 a2 a3 a4); show (0 : Int) + 0 ≤ W r c; omega, fun c _ _ e => absurd rfl e, fun c _ _ _ => rfl, fun c _ => ⟨Int.le_refl 0, by decide⟩, fun r _ => ⟨Int.le_refl 0, by decide⟩, fun r _ _ => rfl⟩, f4'⟩ ?_) (fun t ht => wS ht))
  rintro j ⟨si, M5⟩ hj ⟨e1, u, v, sl, ro, cf, hm, hi, hf⟩
  simp only at e1 hm hf
  subst e1
  unfold l_Seater_match_33
  simp only []
  refine wC (fun hc => wSr ?_) (fun hc => ?_)
  · have : j = R := by omega
    subst this
    exact ⟨u, v, sl, ro, cf, hm, hi, hf⟩
  refine wK (b_placeRow (sh_WHu hs hf) hm (by omega) (show j + 1 ≤ R by omega) hR10 (by omega) hW hi) (fun M6 hM6 => ?_)
  obtain ⟨u', v', sl', ro', cf', h1, h2, h3⟩ := hM6
  exact wL (wSl ⟨by omega, by rw [w32_s (by omega) (by omega)]; rfl, u', v', sl', ro', cf', h1, h2, Fr_tr hf h3⟩)
end OP

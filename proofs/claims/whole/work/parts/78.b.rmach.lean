/-! how far THE RULE's reader comes, and how much it writes -/
def plc : Ts → Nat
  | .inl y => y.1
  | .inr _ => 0
def Pgr (n : Nat) (k : Int) (d : Nat) (q q' : Rs) : Prop := isI q'.1 → isI q.1 ∧ (plc q.1 ≤ n → (q'.2.length : Int) + (plc q.1 : Int) + k ≤ (q.2.length : Int) + (plc q'.1 : Int) ∧ plc q.1 + d ≤ plc q'.1 ∧ plc q'.1 ≤ n)
section PGR
variable {n : Nat} {b : Nat → Int} {q q1 q2 : Rs} {k k1 k2 : Int} {d d1 d2 : Nat} {one : Rs → Rs}
theorem Pg_tr (h1 : Pgr n k1 d1 q q1) (h2 : Pgr n k2 d2 q1 q2) (hk : k ≤ k1 + k2) (hd : d ≤ d1 + d2) : Pgr n k d q q2 := fun h => by
  obtain ⟨a1, a2⟩ := h2 h
  obtain ⟨b1, b2⟩ := h1 a1
  refine ⟨b1, fun hp => ?_⟩
  obtain ⟨b3, b4, b5⟩ := b2 hp
  obtain ⟨a3, a4, a5⟩ := a2 b5
  exact ⟨by omega, by omega, a5⟩
theorem Pg_rf : Pgr n 0 0 q q := fun h => ⟨h, fun hp => ⟨by omega, by omega, hp⟩⟩
theorem Pg_W {x : Int} : Pgr n (-1) 0 q (ruW x q) := fun h => ⟨h, fun hp => ⟨by
  show (((ruW x q).2.length : Nat) : Int) + (plc q.1 : Int) + -1 ≤ (q.2.length : Int) + (plc q.1 : Int)
  unfold ruW
  simp only []
  split
  · rw [len_app]; omega
  · omega, by show plc q.1 + 0 ≤ plc q.1; omega, hp⟩⟩
theorem Pg_F {w : Int} : Pgr n k d q (ruF n b w q) := fun h => absurd h isI_F
theorem Pg_A (ho : OKt n b) (hk : zK n b 4 q.1 ≠ -1) : Pgr n 1 1 q (ruA n b q) := by
  obtain ⟨σ, l⟩ := q
  cases σ with
  | inr e => exact fun h => absurd h (fun h => h)
  | inl y =>
    refine fun _ => ⟨trivial, fun hp => ?_⟩
    have hp : y.1 ≤ n := hp
    have hk : ckd n b 4 y.1 ≠ -1 := hk
    have t0 := t_n0 (fun e => hk ((ckd_m1 ho).mpr e))
    have te := t_en (b := b) ho.1 hp
    have tp := t_pl (n := n) (b := b) (p := y.1) ho.1
    have := te.2.2 t0
    show (l.length : Int) + (y.1 : Int) + 1 ≤ (l.length : Int) + (tEn n b y.1 : Int) ∧ y.1 + 1 ≤ tEn n b y.1 ∧ tEn n b y.1 ≤ n
    exact ⟨by omega, by omega, te.2.1⟩
theorem zW_k (ho : OKt n b) {w : Nat} (h : zW n b 4 (txs w) q.1 = true) : zK n b 4 q.1 = -3 := by
  obtain ⟨σ, l⟩ := q
  cases σ with
  | inr e => cases h
  | inl y =>
    have h : (decide (tTg n b 4 y.1 = 2) && decide (tLs n b y.1 = txs w)) = true := h
    rw [Bool.and_eq_true, decide_eq_true_iff] at h
    exact (ckd_m3 ho).mpr h.1
theorem Pg_V (ho : OKt n b) : Pgr n 0 1 q (ruV n b q) := by
  have key : ∀ x, zK n b 4 q.1 ≠ -1 → Pgr n 0 1 q (ruA n b (ruW x q)) := fun x h => Pg_tr Pg_W (Pg_A ho (q := ruW x q) h) (by omega) (by omega)
  unfold ruV
  split
  · exact key _ (by omega)
  · split
    · rename_i h; exact key _ (by rw [zW_k ho h]; decide)
    · split
      · rename_i h; exact key _ (by rw [zW_k ho h]; decide)
      · split
        · rename_i h; exact key _ (by rw [zW_k ho h]; decide)
        · split
          · rename_i h; exact key _ (by rw [zW_k ho h]; decide)
          · split
            · rename_i h; exact key _ (by rw [zW_k ho h]; decide)
            · exact fun h => absurd (isI_N.mp h) isI_F
theorem Pg_Sl (ho : OKt n b) : ∀ f (q : Rs), Pgr n 0 0 q (ruSl n b f q)
  | 0, _ => Pg_rf
  | f + 1, q => by
    show Pgr n 0 0 q (if zK n b 4 q.1 = 43 ∨ zK n b 4 q.1 = 45 then ruSl n b f (ruW (-(zK n b 4 q.1)) (ruV n b (ruA n b q))) else q)
    split
    · exact Pg_tr (Pg_A ho (by omega)) (Pg_tr (Pg_V ho) (Pg_tr Pg_W (Pg_Sl ho f _) (Int.le_refl _) (Nat.le_refl _)) (Int.le_refl _) (Nat.le_refl _)) (by omega) (by omega)
    · exact Pg_rf
theorem Pg_S (ho : OKt n b) : Pgr n 0 1 q (ruS n b q) := Pg_tr (Pg_V ho) (Pg_Sl ho 800 _) (by omega) (by omega)
theorem Pg_C (ho : OKt n b) : Pgr n 0 3 q (ruC n b q) := by
  have h1 : Pgr n 0 0 (ruS n b q) (ruC1 n b (ruS n b q)) := by
    unfold ruC1; split
    · exact Pg_rf
    · exact Pg_F
  have h2 : Pgr n 1 1 (ruC1 n b (ruS n b q)) (ruA n b (ruC1 n b (ruS n b q))) := by
    unfold ruC1; split
    · exact Pg_A ho (by omega)
    · exact fun h => absurd (isI_N.mp h) isI_F
  exact Pg_tr (Pg_S ho) (Pg_tr h1 (Pg_tr h2 (Pg_tr (Pg_S ho) Pg_W (Int.le_refl _) (Nat.le_refl _)) (Int.le_refl _) (Nat.le_refl _)) (Int.le_refl _) (Nat.le_refl _)) (by omega) (by omega)
theorem Pg_Bl (ho : OKt n b) (h1 : ∀ q, Pgr n 0 1 q (one q)) : ∀ f (q : Rs), Pgr n 0 0 q (ruBl n b one f q)
  | 0, _ => Pg_rf
  | f + 1, q => by
    show Pgr n 0 0 q (if zK n b 4 q.1 = 38 then ruBl n b one f (ruW (-38) (one (ruA n b q))) else q)
    split
    · exact Pg_tr (Pg_A ho (by omega)) (Pg_tr (h1 _) (Pg_tr Pg_W (Pg_Bl ho h1 f _) (Int.le_refl _) (Nat.le_refl _)) (Int.le_refl _) (Nat.le_refl _)) (by omega) (by omega)
    · exact Pg_rf
theorem Pg_B (ho : OKt n b) (h1 : ∀ q, Pgr n 0 1 q (one q)) : Pgr n 0 1 q (ruB n b one q) := Pg_tr (h1 q) (Pg_Bl ho h1 800 _) (by omega) (by omega)
theorem Pg_El (ho : OKt n b) (h1 : ∀ q, Pgr n 0 1 q (one q)) : ∀ f (q : Rs), Pgr n 0 0 q (ruEl n b one f q)
  | 0, _ => Pg_rf
  | f + 1, q => by
    show Pgr n 0 0 q (if zK n b 4 q.1 = 124 then ruEl n b one f (ruW (-124) (ruB n b one (ruA n b q))) else q)
    split
    · exact Pg_tr (Pg_A ho (by omega)) (Pg_tr (Pg_B ho h1) (Pg_tr Pg_W (Pg_El ho h1 f _) (Int.le_refl _) (Nat.le_refl _)) (Int.le_refl _) (Nat.le_refl _)) (by omega) (by omega)
    · exact Pg_rf
theorem Pg_E (ho : OKt n b) (h1 : ∀ q, Pgr n 0 1 q (one q)) : Pgr n 0 1 q (ruE n b one q) := Pg_tr (Pg_B ho h1) (Pg_El ho h1 800 _) (by omega) (by omega)
theorem Pg_T (ho : OKt n b) : Pgr n 1 1 q (ruT n b q) := by
  unfold ruT zTake
  split
  · exact Pg_A ho (by omega)
  · exact fun h => absurd (isI_N.mp h) isI_F
theorem Pg_O (ho : OKt n b) : ∀ g (q : Rs), Pgr n 0 1 q (ruO n b g q)
  | 0, q => by
    show Pgr n 0 1 q (if zK n b 4 q.1 = 33 ∨ zK n b 4 q.1 = 40 then ruF n b 4 q else ruC n b q)
    split
    · exact Pg_F
    · exact Pg_tr Pg_rf (Pg_C ho) (by omega) (by omega)
  | g + 1, q => by
    show Pgr n 0 1 q (if zK n b 4 q.1 = 33 then ruW (-33) (ruO n b g (ruA n b q)) else if zK n b 4 q.1 = 40 then ruT n b (ruE n b (ruO n b g) (ruA n b q)) else ruC n b q)
    split
    · exact Pg_tr (Pg_A ho (by omega)) (Pg_tr (Pg_O ho g _) Pg_W (Int.le_refl _) (Nat.le_refl _)) (by omega) (by omega)
    · split
      · exact Pg_tr (Pg_A ho (by omega)) (Pg_tr (Pg_E ho (Pg_O ho g)) (Pg_T ho) (Int.le_refl _) (Nat.le_refl _)) (by omega) (by omega)
      · exact Pg_tr Pg_rf (Pg_C ho) (by omega) (by omega)
/-! a fault stays -/
theorem ruV_inr (h : ¬ isI q.1) : (ruV n b q).1 = q.1 := by
  unfold ruV
  rw [zK_inr h, zW_inr h, zW_inr h, zW_inr h, zW_inr h, zW_inr h, if_neg (by decide), if_neg (by decide), if_neg (by decide), if_neg (by decide), if_neg (by decide), if_neg (by decide)]
  show zN n b 4 (zF n b 1 q.1) = q.1
  rw [zF_inr h, zN_inr h]
theorem ruSl_inr {f : Nat} (h : ¬ isI q.1) : ruSl n b f q = q := by
  cases f with
  | zero => rfl
  | succ f =>
    show (if zK n b 4 q.1 = 43 ∨ zK n b 4 q.1 = 45 then _ else q) = q
    rw [zK_inr h, if_neg (by decide)]
theorem ruS_inr (h : ¬ isI q.1) : (ruS n b q).1 = q.1 := by
  have e := ruV_inr (n := n) (b := b) h
  unfold ruS
  rw [ruSl_inr (by rw [e]; exact h)]; exact e
theorem ruC_tail {q0 : Rs} (h : ¬ isI q0.1) : (ruW (-(zK n b 4 q0.1)) (ruS n b (ruA n b (ruC1 n b q0)))).1 = q0.1 := by
  have e2 : (ruA n b (ruC1 n b q0)).1 = q0.1 := by
    unfold ruC1
    rw [zK_inr h, if_neg (by decide)]
    show zN n b 4 (zF n b 1 q0.1) = q0.1
    rw [zF_inr h, zN_inr h]
  show (ruS n b (ruA n b (ruC1 n b q0))).1 = q0.1
  rw [ruS_inr (by rw [e2]; exact h), e2]
theorem ruBl_inr {f : Nat} (h : ¬ isI q.1) : ruBl n b one f q = q := by
  cases f with
  | zero => rfl
  | succ f =>
    show (if zK n b 4 q.1 = 38 then _ else q) = q
    rw [zK_inr h, if_neg (by decide)]
theorem ruEl_inr {f : Nat} (h : ¬ isI q.1) : ruEl n b one f q = q := by
  cases f with
  | zero => rfl
  | succ f =>
    show (if zK n b 4 q.1 = 124 then _ else q) = q
    rw [zK_inr h, if_neg (by decide)]
/-! where a row of signs ends -/
theorem ck_end (ho : OKt n b) {σ : Ts} (hi : isI σ) (h : n ≤ plc σ) : zK n b 4 σ = -1 := by
  cases σ with
  | inr e => exact absurd hi (fun h => h)
  | inl y =>
    have h : n ≤ y.1 := h
    refine (ckd_m1 ho).mpr ?_
    have := t_pl (n := n) (b := b) (p := y.1) ho.1
    unfold tTg
    rw [if_pos (by omega)]
theorem Bl_end (ho : OKt n b) (h1 : ∀ q, Pgr n 0 1 q (one q)) : ∀ f (q : Rs), isI (ruBl n b one f q).1 → n ≤ f + plc q.1 → plc q.1 ≤ n → zK n b 4 (ruBl n b one f q).1 ≠ 38
  | 0, q, hi, hf, _ => by
    show zK n b 4 q.1 ≠ 38
    have hi : isI q.1 := hi
    rw [ck_end ho hi (by omega)]; decide
  | f + 1, q, hi, hf, hp => by
    have un : ruBl n b one (f + 1) q = if zK n b 4 q.1 = 38 then ruBl n b one f (ruW (-38) (one (ruA n b q))) else q := rfl
    rw [un] at hi ⊢
    by_cases c : zK n b 4 q.1 = 38
    · rw [if_pos c] at hi ⊢
      have p1 : Pgr n 0 2 q (ruW (-38) (one (ruA n b q))) := Pg_tr (Pg_A ho (by omega)) (Pg_tr (h1 _) Pg_W (Int.le_refl _) (Nat.le_refl _)) (by omega) (by omega)
      have hi2 := (Pg_Bl ho h1 f _ hi).1
      have := (p1 hi2).2 hp
      exact Bl_end ho h1 f _ hi (by omega) this.2.2
    · rw [if_neg c] at hi ⊢; exact c
theorem El_end (ho : OKt n b) (h1 : ∀ q, Pgr n 0 1 q (one q)) : ∀ f (q : Rs), isI (ruEl n b one f q).1 → n ≤ f + plc q.1 → plc q.1 ≤ n → zK n b 4 q.1 ≠ 38 → zK n b 4 (ruEl n b one f q).1 ≠ 38 ∧ zK n b 4 (ruEl n b one f q).1 ≠ 124
  | 0, q, hi, hf, _, h38 => by
    show zK n b 4 q.1 ≠ 38 ∧ zK n b 4 q.1 ≠ 124
    have hi : isI q.1 := hi
    rw [ck_end ho hi (by omega)]; decide
  | f + 1, q, hi, hf, hp, h38 => by
    have un : ruEl n b one (f + 1) q = if zK n b 4 q.1 = 124 then ruEl n b one f (ruW (-124) (ruB n b one (ruA n b q))) else q := rfl
    rw [un] at hi ⊢
    by_cases c : zK n b 4 q.1 = 124
    · rw [if_pos c] at hi ⊢
      have pa : Pgr n 1 1 q (ruA n b q) := Pg_A ho (by omega)
      have po := h1 (ruA n b q)
      have pb : Pgr n 0 0 (one (ruA n b q)) (ruB n b one (ruA n b q)) := Pg_Bl ho h1 800 _
      have p1 : Pgr n 0 2 q (ruW (-124) (ruB n b one (ruA n b q))) := Pg_tr pa (Pg_tr (Pg_B ho h1) Pg_W (Int.le_refl _) (Nat.le_refl _)) (by omega) (by omega)
      have hi2 := (Pg_El ho h1 f _ hi).1
      have := (p1 hi2).2 hp
      have hi3 : isI (ruB n b one (ruA n b q)).1 := hi2
      have hi4 := (pb hi3).1
      have hi5 := (po hi4).1
      have l1 := (pa hi5).2 hp
      have l2 := (po hi4).2 l1.2.2
      have hn := ho.1
      exact El_end ho h1 f _ hi (by omega) this.2.2 (Bl_end ho h1 800 _ hi3 (by omega) l2.2.2)
    · rw [if_neg c] at hi ⊢; exact ⟨h38, c⟩
end PGR

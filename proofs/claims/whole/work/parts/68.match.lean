/-! rows 1 .. t have their columns, the lightest -/
def MatI (C R t : Nat) (W : Nat → Nat → Int) (u v : Nat → Int) (ro : Nat → Nat) : Prop := (∀ c, 1 ≤ c → c ≤ C → ro c ≤ t) ∧ (∀ c c', 1 ≤ c → c ≤ C → 1 ≤ c' → c' ≤ C → ro c = ro c' → ro c ≠ 0 → c = c') ∧ (∀ r, 1 ≤ r → r ≤ t → ∃ c, 1 ≤ c ∧ c ≤ C ∧ ro c = r) ∧ (∀ r c, 1 ≤ r → r ≤ R → 1 ≤ c → c ≤ C → u r + v c ≤ W r c) ∧ (∀ c, 1 ≤ c → c ≤ C → ro c ≠ 0 → u (ro c) + v c = W (ro c) c) ∧ (∀ c, 1 ≤ c → c ≤ C → ro c = 0 → v c = 0) ∧ (∀ c, c ≤ C → v c ≤ 0 ∧ -(5766503906250000 * (t : Int)) ≤ v c) ∧ (∀ r, r ≤ 10 → 0 ≤ u r ∧ u r ≤ 5766503906250000 * (t : Int)) ∧ (∀ r, t < r → r ≤ 10 → u r = 0)
section MA
variable {C R t : Nat} {W : Nat → Nat → Int} {u v sl : Nat → Int} {ro cf : Nat → Nat} {M : Mm}
theorem b_nearest (hs : Sh M) (h : HM C W u v sl ro cf M) (hC : C ≤ 24) (hR : t + 1 ≤ R) (hR10 : R ≤ 10) (hRC : R ≤ C) (hW : ∀ r c, 1 ≤ r → r ≤ R → 1 ≤ c → c ≤ C → 0 ≤ W r c ∧ W r c ≤ 5766503906250000) (hro : RO C t ro) (hp : PR C R t W u v ro) (hK : u (t + 1) ≤ 5766503906250000) {B col j : Nat} (ht : TR C W u v sl ro cf B col j) (hc : ro col ≠ 0) : wp (f_Seater_nearestColumn M 66 (col : Int) ((B ||| 2 ^ col : Nat) : Int)) (fun q => ∃ (nr : Nat) (u' v' sl' : Nat → Int) (cf' : Nat → Nat), q.1 = (nr : Int) ∧ HM C W u' v' sl' ro cf' q.2 ∧ Fr WHu M q.2 ∧ PR C R t W u' v' ro ∧ u' (t + 1) ≤ 5766503906250000 ∧ TR C W u' v' sl' ro cf' (B ||| 2 ^ col) nr (j + 1) ∧ ∀ r, (∀ b, b ≤ C → ro b ≠ r) → u' r = u r) := by
  have hG := fun c => tr_gap (c := c) hR hR10 hW hro hp hK ht hc
  obtain ⟨fc, fc1, fc2, fc3⟩ := ro_free (by omega) hro
  have hst := fun nr le => @tr_step C R t W u v sl ro cf B col j hR hR10 hRC hW hro hp hK ht hc nr le
  have ht0 := ht
  obtain ⟨t1, t2, t3, t4, t5, t6, t7, t8⟩ := ht0
  have rr : ∀ b, b ≤ C → ro b ≠ 0 → 1 ≤ ro b ∧ ro b ≤ t + 1 := fun b hb hz => by
    by_cases e : b = 0
    · subst e; have := hro.1; omega
    · have := hro.2.1 b (by omega) hb; omega
  have hB' : ∀ c, (B ||| 2 ^ col).testBit c = true → ro c ≠ 0 := fun c hb => by
    rw [tb_or, Bool.or_eq_true, decide_eq_true_iff] at hb
    rcases hb with hb | rfl
    · exact t2 c hb
    · exact hc
  have h0B : (B ||| 2 ^ col).testBit 0 = true := by
    rw [tb_or]
    rcases Nat.eq_zero_or_pos j with h0 | h0
    · rw [(t6 h0).1]; simp
    · rw [(t7 h0).1]; rfl
  have hBl : (B ||| 2 ^ col) < 33554432 := by
    have h1 : (B ||| 2 ^ col) < 2 ^ (C + 1) := Nat.or_lt_two_pow t1 (two_lt (by omega))
    have h2 : 2 ^ (C + 1) ≤ 2 ^ 25 := Nat.pow_le_pow_right (by decide) (by omega)
    have h3 : (2 : Nat) ^ 25 = 33554432 := by decide
    omega
  have rc := rr col t4 hc
  have bu := hp.2.2.2.2
  have bv := hp.2.2.2.1
  have hu0 := bu (t + 1) (by omega)
  have ht10 : (t : Int) ≤ 9 := by omega
  unfold f_Seater_nearestColumn
  rw [show mg M (cI 66) 4 = 71 from p_65_4 hs, show cI 71 = 70 from rfl, n_70 hs, Int.toNat_natCast, h.2.2.2.2.2.1 col (by omega)]
  refine wI (by decide) (wI (by omega) (wL (wK (b_near hs h hC hBl t4 (by omega) (fun c a1 a2 => by have := hW (ro col) c rc.1 (by omega) a1 a2; omega) (by have := bu (ro col) (by omega); omega) (fun c a1 => by have := bv c a1; omega)) (fun q hq => ?_))))
  obtain ⟨hm1, f1, hq⟩ := hq
  have hfcB : (B ||| 2 ^ col).testBit fc = false := by
    cases e : (B ||| 2 ^ col).testBit fc with
    | false => rfl
    | true => exact absurd fc3 (hB' fc e)
  obtain ⟨nr, n0, n1, n2, n3, n4, n5⟩ := hq ⟨fc, fc1, fc2, hfcB⟩
  obtain ⟨s1, s2, s3, s4⟩ := hst nr q.1 n1 n2 n3 n4 n5
  refine wK (b_shift (sh_WHu hs f1) hm1 hC hBl ⟨s1.1, by omega⟩ (fun r hr => by have := bu r hr; omega) (fun c a1 => by have := bv c a1; omega) (fun c a1 a2 => ?_) (fun c a1 a2 => by have := rr c a1 (hB' c a2); omega) (fun c c' a1 a2 a3 a4 a5 => hro.2.2.1 c c' a1 a2 a5 (hB' c a3))) (fun M2 hM2 => ?_)
  · have hc1 : 1 ≤ c := by
      rcases Nat.eq_zero_or_pos c with e | e
      · subst e; rw [h0B] at a2; cases a2
      · exact e
    obtain ⟨g1, g2, g3, _⟩ := hG c hc1 a1 a2
    have g4 := rr _ g1 (hB' _ g2)
    have g5 := hW _ c g4.1 (by omega) hc1 a1
    have g6 := bu (ro (cfG (B ||| 2 ^ col) W u v sl cf (ro col) col (C + 1) c)) (by omega)
    have g7 := bv c a1
    rw [g3]; unfold gap; omega
  · obtain ⟨hm2, f2⟩ := hM2
    exact wS ⟨nr, _, _, _, _, n0, hm2, Fr_tr f1 f2, s2, s3, s4, fun r hr => uN_out (fun b b1 _ => hr b b1)⟩
theorem b_placeRow (hs : Sh M) (h : HM C W u v sl ro cf M) (hC : C ≤ 24) (hR : t + 1 ≤ R) (hR10 : R ≤ 10) (hRC : R ≤ C) (hW : ∀ r c, 1 ≤ r → r ≤ R → 1 ≤ c → c ≤ C → 0 ≤ W r c ∧ W r c ≤ 5766503906250000) (hi : MatI C R t W u v ro) : wp (f_Seater_placeRow M 66 ((t + 1 : Nat) : Int)) (fun M' => ∃ (u' v' sl' : Nat → Int) (ro' cf' : Nat → Nat), HM C W u' v' sl' ro' cf' M' ∧ MatI C R (t + 1) W u' v' ro' ∧ Fr WHu M M') := by
  obtain ⟨i1, i2, i3, i4, i5, i6, i7, i8, i9⟩ := hi
  have hu1 : u (t + 1) = 0 := i9 (t + 1) (by omega) (by omega)
  unfold f_Seater_placeRow
  rw [show mg M (cI 66) 4 = 71 from p_65_4 hs, show cI 71 = 70 from rfl, n_70 hs]
  refine wI (by decide) (wI (by decide) (wL ?_))
  rw [show (0 : Int).toNat = 0 from rfl]
  have hm1 := HM_r h 0 (t + 1)
  have f1 : Fr WHu M (mp M 70 0 ((t + 1 : Nat) : Int)) := Fr_mp (Or.inr (by omega))
  generalize hM1 : mp M 70 0 ((t + 1 : Nat) : Int) = M1 at *
  have s1 := sh_WHu hs f1
  have hro : RO C t (up ro 0 (t + 1)) := by
    refine ⟨up_s _ _ _, fun c a1 a2 => by rw [up_n (by omega)]; exact i1 c a1 a2, fun c c' a1 a2 e hz => ?_, fun r a1 a2 => ?_⟩
    · by_cases e1 : c = 0
      · by_cases e2 : c' = 0
        · omega
        · subst e1
          rw [up_s, up_n e2] at e
          have := i1 c' (by omega) a2
          omega
      · by_cases e2 : c' = 0
        · subst e2
          rw [up_s, up_n e1] at e
          have := i1 c (by omega) a1
          omega
        · rw [up_n e1, up_n e2] at e
          rw [up_n e1] at hz
          exact i2 c c' (by omega) a1 (by omega) a2 e hz
    · obtain ⟨c, c1, c2, c3⟩ := i3 r a1 a2
      exact ⟨c, c1, c2, by rw [up_n (by omega)]; exact c3⟩
  have hpr : PR C R t W u v (up ro 0 (t + 1)) := ⟨i4, fun c a1 a2 => by rw [up_n (by omega)]; exact i5 c a1 a2, fun c a1 a2 => by rw [up_n (by omega)]; exact i6 c a1 a2, fun c a1 => by have := i7 c a1; omega, fun r a1 => by have := i8 r a1; omega⟩
  generalize hroe : up ro 0 (t + 1) = ro1 at *
  rw [show mg M1 (cI 66) 3 = 70 from p_65_3 s1]
  refine wI (by decide) (wK (w_fillL M1 70 9223372036854775807 (by rw [show cI 70 = 69 from rfl, n_69 s1]; decide)) (fun M2 ⟨f2, k2⟩ => ?_))
  rw [show cI 70 = 69 from rfl] at f2 k2
  rw [n_69 s1] at k2
  have f2' : Fr WHu M M2 := Fr_tr f1 (Fr_sub f2 (fun c x e => Or.inr (by omega)))
  have hm2 : HM C W u v (fun _ => 9223372036854775807) ro1 cf M2 := by
    obtain ⟨h1, h2, h3, h4, h5, h6, h7⟩ := hm1
    have e : ∀ c x, c ≠ 69 → mg M2 c x = mg M1 c x := fun c x hne => f2.1 c x hne
    exact ⟨by rw [e 65 _ (by decide)]; exact h1, fun r c a b c' d => by rw [e 66 _ (by decide)]; exact h2 r c a b c' d, fun r hr => by rw [e 67 _ (by decide)]; exact h3 r hr, fun c hc => by rw [e 68 _ (by decide)]; exact h4 c hc, fun c hc => k2 c (by omega), fun c hc => by rw [e 70 _ (by decide)]; exact h6 c hc, fun c hc => by rw [e 71 _ (by decide)]; exact h7 c hc⟩
  -- the tree grows
  refine wK (wp_loop (fun j s => ∃ (B col : Nat) (u' v' sl' : Nat → Int) (cf' : Nat → Nat), s.1 = (B : Int) ∧ s.2.1 = (col : Int) ∧ s.2.2.1 = (j : Int) ∧ HM C W u' v' sl' ro1 cf' s.2.2.2 ∧ Fr WHu M s.2.2.2 ∧ PR C R t W u' v' ro1 ∧ u' (t + 1) ≤ 5766503906250000 ∧ TR C W u' v' sl' ro1 cf' B col j ∧ ∀ r, t + 1 < r → r ≤ 10 → u' r = 0) (t + 1) (Q := fun q => ∃ (B col j : Nat) (u' v' sl' : Nat → Int) (cf' : Nat → Nat), q.1 = (col : Int) ∧ j ≤ t + 1 ∧ ro1 col = 0 ∧ HM C W u' v' sl' ro1 cf' q.2 ∧ Fr WHu M q.2 ∧ PR C R t W u' v' ro1 ∧ u' (t + 1) ≤ 5766503906250000 ∧ TR C W u' v' sl' ro1 cf' B col j ∧ ∀ r, t + 1 < r → r ≤ 10 → u' r = 0) (by omega) ⟨0, 0, u, v, _, cf, rfl, rfl, rfl, hm2, f2', hpr, by omega, ⟨pow_1 _, (fun c e => by rw [Nat.zero_testBit] at e; cases e), cnt_z _ (fun i _ => Nat.zero_testBit i), by omega, Nat.zero_testBit 0, fun _ => ⟨rfl, rfl, fun c _ => rfl⟩, fun e => by omega, fun _ => 0, rfl, fun c _ a2 a3 => a2.elim (fun a2 => by rw [Nat.zero_testBit] at a2; cases a2) (fun a2 => absurd a2 a3)⟩, fun r a1 a2 => i9 r (by omega) a2⟩ ?_) ?_
  · rintro j ⟨sB, sc, si, M3⟩ hj ⟨B, col, u', v', sl', cf', e1, e2, e3, hm3, f3, hp3, hK3, ht3, hz3⟩
    simp only at e1 e2 e3 hm3 f3
    subst e1 e2 e3
    have s3 := sh_WHu hs f3
    have hcol : col ≤ C := ht3.2.2.2.1
    unfold l_Seater_placeRow_24
    simp only []
    rw [show mg M3 (cI 66) 6 = (C : Int) from hm3.1, show mg M3 (cI 66) 4 = 71 from p_65_4 s3, show cI 71 = 70 from rfl, n_70 s3, Int.toNat_natCast, hm3.2.2.2.2.2.1 col (by omega)]
    refine wE (by omega) (wI (by decide) (wI (by omega) (wC (fun hc => wSr ⟨B, col, j, u', v', sl', cf', rfl, hj, by omega, hm3, f3, hp3, hK3, ht3, hz3⟩) (fun hc => ?_))))
    have hc' : ro1 col ≠ 0 := by omega
    have hlt := (tr_lt ht3 hro hc').2
    have hBl : B < 33554432 := by
      have h2 : 2 ^ (C + 1) ≤ 2 ^ 25 := Nat.pow_le_pow_right (by decide) (by omega)
      have h3 : (2 : Nat) ^ 25 = 33554432 := by decide
      have := ht3.1
      omega
    have h2c : (2 ^ col : Nat) < 33554432 := by
      have h2 : 2 ^ col ≤ 2 ^ 24 := Nat.pow_le_pow_right (by decide) (by omega)
      have h3 : (2 : Nat) ^ 24 = 16777216 := by decide
      omega
    rw [bShl_1 col (by omega), bOr_n (by omega) (by omega)]
    refine wL (wK (b_nearest s3 hm3 hC hR hR10 hRC hW hro hp3 hK3 ht3 hc') (fun q hq => ?_))
    obtain ⟨nr, u2, v2, sl2, cf2, q1, q2, q3, q4, q5, q6, q7⟩ := hq
    refine wL (wSl ⟨by omega, B ||| 2 ^ col, nr, u2, v2, sl2, cf2, rfl, q1, by rw [w32_s (by omega) (by omega)]; rfl, q2, Fr_tr f3 q3, q4, q5, q6, fun r a1 a2 => ?_⟩)
    rw [q7 r (fun b b1 e => ?_)]
    · exact hz3 r a1 a2
    · by_cases eb : b = 0
      · subst eb; have := hro.1; omega
      · have := hro.2.1 b (by omega) b1; omega
  rintro ⟨sc, M3⟩ ⟨B, col, j, u', v', sl', cf', e1, hj, hfree, hm3, f3, hp3, hK3, ht3, hz3⟩
  simp only at e1 hm3 f3
  subst e1
  obtain ⟨t1, t2, t3, t4, t5, t6, t7, rk, rk0, t8⟩ := ht3
  obtain ⟨p1, p2, p3, p4, p5⟩ := hp3
  have hcol0 : col ≠ 0 := fun e => by subst e; have := hro.1; omega
  have hrkc : rk col ≤ j := (t8 col t4 (Or.inr rfl) hcol0).2.2.2.2
  -- the way back
  unfold j_Seater_placeRow_61
  refine wK (wp_loop (fun i s => ∃ (cc : Nat) (ro' : Nat → Nat), s.1 = (cc : Int) ∧ s.2.1 = (i : Int) ∧ HM C W u' v' sl' ro' cf' s.2.2 ∧ Fr WHu M s.2.2 ∧ cc ≤ C ∧ (cc = 0 ∨ B.testBit cc = true ∨ cc = col) ∧ (∀ c, 1 ≤ c → c ≤ C → c ≠ cc → ro' c ≠ 0 → u' (ro' c) + v' c = W (ro' c) c) ∧ (∀ c c', c ≤ C → c' ≤ C → c ≠ cc → c' ≠ cc → ro' c = ro' c' → ro' c ≠ 0 → c = c') ∧ (∀ r, 1 ≤ r → r ≤ t + 1 → ∃ c, c ≤ C ∧ c ≠ cc ∧ ro' c = r) ∧ (∀ c, c ≤ C → c ≠ cc → ro' c ≤ t + 1) ∧ (∀ c, c ≤ C → rk c < rk cc → ro' c = ro1 c) ∧ (∀ c, 1 ≤ c → c ≤ C → c ≠ cc → ro' c = 0 → v' c = 0) ∧ rk cc + i ≤ rk col) (rk col) (Q := fun M' => ∃ ro' : Nat → Nat, HM C W u' v' sl' ro' cf' M' ∧ Fr WHu M M' ∧ (∀ c, 1 ≤ c → c ≤ C → ro' c ≠ 0 → u' (ro' c) + v' c = W (ro' c) c) ∧ (∀ c c', 1 ≤ c → c ≤ C → 1 ≤ c' → c' ≤ C → ro' c = ro' c' → ro' c ≠ 0 → c = c') ∧ (∀ r, 1 ≤ r → r ≤ t + 1 → ∃ c, 1 ≤ c ∧ c ≤ C ∧ ro' c = r) ∧ (∀ c, 1 ≤ c → c ≤ C → ro' c ≤ t + 1) ∧ (∀ c, 1 ≤ c → c ≤ C → ro' c = 0 → v' c = 0)) (by omega) ⟨col, ro1, rfl, rfl, hm3, f3, t4, Or.inr (Or.inr rfl), fun c a1 a2 _ => p2 c a1 a2, fun c c' a1 a2 _ _ => hro.2.2.1 c c' a1 a2, fun r a1 a2 => ?_, fun c a1 _ => ?_, fun c _ _ => rfl, fun c a1 a2 _ => p3 c a1 a2, Nat.le_refl _⟩ ?_) ?_
  · by_cases er : r = t + 1
    · exact ⟨0, by omega, fun e => hcol0 e.symm, by rw [er]; exact hro.1⟩
    · obtain ⟨c, c1, c2, c3⟩ := hro.2.2.2 r a1 (by omega)
      exact ⟨c, c2, fun e => by rw [e, hfree] at c3; omega, c3⟩
  · by_cases ec : c = 0
    · subst ec; have := hro.1; omega
    · have := hro.2.1 c (by omega) a1; omega
  · rintro i ⟨sc, si, M4⟩ hi ⟨cc, ro', e1, e2, hm4, f4, c0, c1, c2, c3, c4, c5, c6, c7, c8⟩
    simp only at e1 e2 hm4 f4
    subst e1 e2
    have s4 := sh_WHu hs f4
    unfold l_Seater_placeRow_64
    simp only []
    rw [show mg M4 (cI 66) 6 = (C : Int) from hm4.1]
    refine wE (by omega) (wC (fun hc => wSr ⟨ro', hm4, f4, ?_⟩) (fun hc => ?_))
    · have : cc = 0 := by omega
      subst this
      exact ⟨fun c a1 a2 => c2 c a1 a2 (by omega), fun c c' a1 a2 a3 a4 => c3 c c' a2 a4 (by omega) (by omega), fun r a1 a2 => by
        obtain ⟨c, k1, k2, k3⟩ := c4 r a1 a2
        exact ⟨c, by omega, k1, k3⟩, fun c a1 a2 => c5 c a2 (by omega), fun c a1 a2 => c7 c a1 a2 (by omega)⟩
    have hcc : cc ≠ 0 := by omega
    obtain ⟨g1, g2, g3, g4, _⟩ := t8 cc c0 (c1.resolve_left hcc) hcc
    have hbne : cf' cc ≠ cc := fun e => by rw [e] at g4; omega
    have hbro : ro' (cf' cc) = ro1 (cf' cc) := c6 _ g1 g4
    have hbnz : ro1 (cf' cc) ≠ 0 := t2 _ g2
    rw [show mg M4 (cI 66) 5 = 72 from p_65_5 s4, show cI 72 = 71 from rfl, n_71 s4, Int.toNat_natCast, hm4.2.2.2.2.2.2 cc (by omega), show mg M4 (cI 66) 4 = 71 from p_65_4 s4, show cI 71 = 70 from rfl, n_70 s4]
    refine wI (by decide) (wI (by omega) (wL ?_))
    rw [Int.toNat_natCast, hm4.2.2.2.2.2.1 (cf' cc) (by omega)]
    refine wI (by decide) (wI (by omega) (wI (by omega) (wL (wL (wSl ⟨by omega, cf' cc, up ro' cc (ro' (cf' cc)), rfl, by rw [w32_s (by omega) (by omega)]; rfl, HM_r hm4 cc _, Fr_wr f4 (Or.inr (by omega)), g1, Or.inr (Or.inl g2), ?_, ?_, ?_, ?_, ?_, ?_, by omega⟩)))))
    · intro c a1 a2 a3 a4
      by_cases ec : c = cc
      · subst ec
        rw [up_s, hbro]
        unfold gap at g3; omega
      · rw [up_n ec] at a4 ⊢
        exact c2 c a1 a2 ec a4
    · intro c c' a1 a2 a3 a4 e hz
      by_cases ec : c = cc
      · by_cases ec' : c' = cc
        · omega
        · subst ec
          rw [up_s, up_n ec'] at e
          rw [up_s] at hz
          exact absurd (c3 (cf' c) c' g1 a2 hbne ec' e hz) (fun z => a4 z.symm)
      · by_cases ec' : c' = cc
        · subst ec'
          rw [up_s, up_n ec] at e
          rw [up_n ec] at hz
          exact absurd (c3 c (cf' c') a1 g1 ec hbne e hz) a3
        · rw [up_n ec, up_n ec'] at e
          rw [up_n ec] at hz
          exact c3 c c' a1 a2 ec ec' e hz
    · intro r a1 a2
      obtain ⟨c, k1, k2, k3⟩ := c4 r a1 a2
      by_cases ec : c = cf' cc
      · exact ⟨cc, c0, fun e => hbne e.symm, by rw [up_s, ← ec]; exact k3⟩
      · exact ⟨c, k1, ec, by rw [up_n k2]; exact k3⟩
    · intro c a1 a2
      by_cases ec : c = cc
      · subst ec; rw [up_s]; exact c5 _ g1 hbne
      · rw [up_n ec]; exact c5 c a1 ec
    · intro c a1 a2
      have ec : c ≠ cc := fun e => by subst e; omega
      rw [up_n ec]; exact c6 c a1 (by omega)
    · intro c a1 a2 a3 a4
      by_cases ec : c = cc
      · subst ec; rw [up_s, hbro] at a4; exact absurd a4 hbnz
      · rw [up_n ec] at a4; exact c7 c a1 a2 ec a4
  · rintro M4 ⟨ro', hm4, f4, d1, d2, d3, d4, d5⟩
    refine wS ⟨u', v', sl', ro', cf', hm4, ⟨d4, d2, d3, p1, d1, d5, fun c a1 => ?_, fun r a1 => ?_, fun r a1 a2 => hz3 r a1 a2⟩, f4⟩
    · have := p4 c a1
      have hcast : ((t + 1 : Nat) : Int) = (t : Int) + 1 := by omega
      rw [hcast]; omega
    · have := p5 r a1
      have hcast : ((t + 1 : Nat) : Int) = (t : Int) + 1 := by omega
      rw [hcast]; omega
end MA

/-! the law's loop -/
def LI (j : Nat) (s : Int × Mm) : Prop := s.1 = ((6 * j : Nat) : Int) ∧ INV s.2 ∧ mN s.2 ≤ 109 + j ∧ mZ s.2 ≤ 220000 + 10240 * j
def LQ (t : Int × Mm) : Prop := t.1 = 1 ∧ mN t.2 ≤ 600000 ∧ mZ t.2 ≤ 7302250
theorem law_stop {X : XX} {j : Nat} {s : Int × Mm} (hX : X.1 ≤ 3072) (hj : j ≤ 512) (h : LI j s) (hc : w32 ((X.1 : Int) - 6) < s.1) : wp (l_Law_law_18 X 1 1 80 s) (Sum.elim (fun s' => j < 512 ∧ LI (j + 1) s') LQ) := by
  unfold l_Law_law_18
  obtain ⟨_, _, h3, h4⟩ := h
  exact wI hc (wSr ⟨rfl, by show mN s.2 ≤ 600000; omega, by show mZ s.2 ≤ 7302250; omega⟩)
theorem law_next {j : Nat} {M M' : Mm} (hj : j < 512) (h3 : mN M ≤ 109 + j) (h4 : mZ M ≤ 220000 + 10240 * j) (hg : GOOD M M') : wp (some (.inl (((6 * j : Nat) : Int) + 6, M')) : Option ((Int × Mm) ⊕ (Int × Mm))) (Sum.elim (fun s' => j < 512 ∧ LI (j + 1) s') LQ) := by
  obtain ⟨g1, g2, g3⟩ := hg
  have e1 : ((6 * j : Nat) : Int) + 6 = ((6 * (j + 1) : Nat) : Int) := by omega
  have e2 : mN M' ≤ 109 + (j + 1) := by omega
  have e3 : mZ M' ≤ 220000 + 10240 * (j + 1) := Nat.le_trans g3 (by rw [Nat.mul_succ, ← Nat.add_assoc]; exact Nat.add_le_add_right h4 _)
  exact wSl ⟨hj, e1, g1, e2, e3⟩
theorem law_step {X : XX} {j : Nat} {s : Int × Mm} (hX : X.1 ≤ 3072) (hX2 : ∀ k, ok32 (X.2 k)) (hj : j ≤ 512) (h : LI j s) : wp (l_Law_law_18 X 1 1 80 s) (Sum.elim (fun s' => j < 512 ∧ LI (j + 1) s') LQ) := by
  by_cases hc : w32 ((X.1 : Int) - 6) < s.1
  · exact law_stop hX hj h hc
  · obtain ⟨i, M⟩ := s
    obtain ⟨h1, hI, h3, h4⟩ := h
    have h1 : i = ((6 * j : Nat) : Int) := h1
    have hI : INV M := hI
    have h3 : mN M ≤ 109 + j := h3
    have h4 : mZ M ≤ 220000 + 10240 * j := h4
    subst h1
    rw [w32_s (by omega) (by omega)] at hc
    have hc : ¬ ((X.1 : Int) - 6 < ((6 * j : Nat) : Int)) := hc
    have hj2 : j < 512 := by omega
    have nx : ∀ M', GOOD M M' → wp (some (.inl (((6 * j : Nat) : Int) + 6, M')) : Option ((Int × Mm) ⊕ (Int × Mm))) (Sum.elim (fun s' => j < 512 ∧ LI (j + 1) s') LQ) := fun M' hg => law_next hj2 h3 h4 hg
    unfold l_Law_law_18 j_Law_law_280_18 j_Law_law_302_18
    simp only []
    rw [w32_s (x := (X.1 : Int) - 6) (by omega) (by omega), w32_s (x := ((6 * j : Nat) : Int) + 1) (by omega) (by omega), w32_s (x := ((6 * j : Nat) : Int) + 2) (by omega) (by omega), w32_s (x := ((6 * j : Nat) : Int) + 3) (by omega) (by omega), w32_s (x := ((6 * j : Nat) : Int) + 4) (by omega) (by omega), w32_s (x := ((6 * j : Nat) : Int) + 5) (by omega) (by omega), w32_s (x := ((6 * j : Nat) : Int) + 6) (by omega) (by omega)]
    refine wE hc (wI (by omega) ?_)
    generalize bAnd (X.2 (((6 * j : Nat) : Int)).toNat) 31 = o
    have g1 : (0 : Int) ≤ ((6 * j : Nat) : Int) + 1 ∧ ((6 * j : Nat) : Int) + 1 < (X.1 : Int) := by omega
    have g2 : (0 : Int) ≤ ((6 * j : Nat) : Int) + 2 ∧ ((6 * j : Nat) : Int) + 2 < (X.1 : Int) := by omega
    have g3 : (0 : Int) ≤ ((6 * j : Nat) : Int) + 3 ∧ ((6 * j : Nat) : Int) + 3 < (X.1 : Int) := by omega
    have g4 : (0 : Int) ≤ ((6 * j : Nat) : Int) + 4 ∧ ((6 * j : Nat) : Int) + 4 < (X.1 : Int) := by omega
    have g5 : (0 : Int) ≤ ((6 * j : Nat) : Int) + 5 ∧ ((6 * j : Nat) : Int) + 5 < (X.1 : Int) := by omega
    refine wC (fun _ => ?_) (fun _ => ?_)
    · exact wI g1 (wI g2 (wK (st_player hI _ _) (fun p hp => wI g1 (wI g2 (wK hp (fun q hq => wI hq.1 (wL (nx q.2 hq.2))))))))
    refine wC (fun _ => ?_) (fun _ => ?_)
    · exact wI g1 (wI g2 (wI g3 (wK (st_plays hI _ _ _) (fun p hp => wI g1 (wI g2 (wI g3 (wK hp (fun q hq => wI hq.1 (wL (nx q.2 hq.2))))))))))
    refine wC (fun _ => ?_) (fun _ => ?_)
    · exact wI g1 (wI g2 (wK (st_cost hI _ _) (fun p hp => wK hp (fun q hq => wI hq.1 (wL (nx q.2 hq.2))))))
    refine wC (fun _ => ?_) (fun _ => ?_)
    · refine wI g1 (wI g2 (wC (fun cz => ?_) (fun cz => ?_)))
      · exact wK (st_here hI _ (Or.inl rfl)) (fun p hp => wI g1 (wI g2 (wI cz (wK hp (fun q hq => wI hq.1 (wL (nx q.2 hq.2)))))))
      · exact wK (st_here hI _ (Or.inr rfl)) (fun p hp => wI g1 (wI g2 (wE cz (wK hp (fun q hq => wI hq.1 (wL (nx q.2 hq.2)))))))
    refine wC (fun _ => ?_) (fun _ => ?_)
    · exact wI g1 (wI g2 (wI g3 (wI g4 (wI g5 (wK (st_feed hI _ _ _ _ _) (fun p hp => wI g1 (wI g2 (wI g3 (wI g4 (wI g5 (wK hp (fun q hq => wI hq.1 (wL (nx q.2 hq.2))))))))))))))
    refine wC (fun _ => ?_) (fun _ => ?_)
    · exact wI g1 (wK (st_end hI _) (fun p hp => wI g1 (wK hp (fun q hq => wI hq.1 (wL (nx q.2 hq.2))))))
    refine wC (fun _ => ?_) (fun _ => ?_)
    · exact wK (st_load hI ) (fun p hp => wK hp (fun q hq => wI hq.1 (wL (nx q.2 hq.2))))
    refine wC (fun _ => ?_) (fun _ => ?_)
    · exact wK (st_rule hI ) (fun p hp => wK hp (fun q hq => wI hq.1 (wL (nx q.2 hq.2))))
    refine wC (fun _ => ?_) (fun _ => ?_)
    · exact wI g1 (wK (st_fault hI _) (fun p hp => wK hp (fun q hq => wI hq.1 (wL (nx q.2 hq.2)))))
    refine wC (fun _ => ?_) (fun _ => ?_)
    · exact wI g1 (wI g2 (wK (st_piece hI _ (hX2 _)) (fun p hp => wK hp (fun q hq => wI hq.1 (wL (nx q.2 hq.2))))))
    refine wC (fun _ => ?_) (fun _ => ?_)
    · exact wI g1 (wK (st_playable hI _) (fun p hp => wI g1 (wK hp (fun q hq => wI hq.1 (wL (nx q.2 hq.2))))))
    refine wC (fun _ => ?_) (fun _ => ?_)
    · exact wI g1 (wK (st_lacks hI _) (fun p hp => wI g1 (wK hp (fun q hq => wI hq.1 (wL (nx q.2 hq.2))))))
    refine wC (fun _ => ?_) (fun _ => ?_)
    · exact wI g1 (wK (st_seat hI _) (fun p hp => wI g1 (wK hp (fun q hq => wI hq.1 (wL (nx q.2 hq.2))))))
    refine wC (fun _ => ?_) (fun _ => ?_)
    · exact wI g1 (wK (st_again hI _) (fun p hp => wI g1 (wK hp (fun q hq => wI hq.1 (wL (nx q.2 hq.2))))))
    refine wC (fun _ => ?_) (fun _ => ?_)
    · exact wI g1 (wI g2 (wK (st_chair hI _ _) (fun p hp => wK hp (fun q hq => wI hq.1 (wL (nx q.2 hq.2))))))
    refine wC (fun _ => ?_) (fun _ => ?_)
    · exact wI g1 (wI g2 (wI g3 (wK (st_sit hI _ _ _) (fun p hp => wI g1 (wI g2 (wI g3 (wK hp (fun q hq => wI hq.1 (wL (nx q.2 hq.2))))))))))
    refine wC (fun _ => ?_) (fun _ => ?_)
    · exact wI g1 (wI g2 (wK (st_seating hI _ _) (fun p hp => wK hp (fun q hq => wI hq.1 (wL (nx q.2 hq.2))))))
    refine wC (fun _ => ?_) (fun _ => ?_)
    · exact wI g1 (wI g2 (wK (st_programme hI _ _) (fun p hp => wI g1 (wI g2 (wK hp (fun q hq => wI hq.1 (wL (nx q.2 hq.2))))))))
    refine wC (fun _ => ?_) (fun _ => ?_)
    · exact wI g1 (wK (st_plan hI _) (fun p hp => wK hp (fun q hq => wI hq.1 (wL (nx q.2 hq.2)))))
    refine wC (fun _ => ?_) (fun _ => ?_)
    · exact wK (st_strain hI ) (fun p hp => wK hp (fun q hq => wI hq.1 (wL (nx q.2 hq.2))))
    refine wC (fun _ => ?_) (fun _ => ?_)
    · exact wI g1 (wI g2 (wI g3 (wK (st_tell hI _ _ _) (fun p hp => wI g1 (wI g2 (wI g3 (wK hp (fun q hq => wI hq.1 (wL (nx q.2 hq.2))))))))))
    refine wC (fun _ => ?_) (fun _ => ?_)
    · exact wI g1 (wI g2 (wI g3 (wK (st_where hI _ _ _) (fun p hp => wI g1 (wI g2 (wI g3 (wK hp (fun q hq => wI hq.1 (wL (nx q.2 hq.2))))))))))
    refine wC (fun _ => ?_) (fun _ => ?_)
    · exact wI g1 (wI g2 (wI g3 (wK (st_copies hI _ _ _) (fun p hp => wI g1 (wI g2 (wI g3 (wK hp (fun q hq => wI hq.1 (wL (nx q.2 hq.2))))))))))
    refine wC (fun _ => ?_) (fun _ => ?_)
    · exact wI g1 (wK (st_contest hI _) (fun p hp => wI g1 (wK hp (fun q hq => wI hq.1 (wL (nx q.2 hq.2))))))
    refine wC (fun _ => ?_) (fun _ => ?_)
    · exact wI g1 (wI g2 (wK (st_may hI _ _) (fun p hp => wI g1 (wI g2 (wK hp (fun q hq => wI hq.1 (wL (nx q.2 hq.2))))))))
    refine wC (fun _ => ?_) (fun _ => ?_)
    · exact wI g1 (wK (st_count hI _) (fun p hp => wI g1 (wK hp (fun q hq => wI hq.1 (wL (nx q.2 hq.2))))))
    exact wL (nx M ⟨hI, by omega, by omega⟩)
theorem law_okF : LawOk := fun X hX hX2 => by
  obtain ⟨t, ht, q1, q2, q3⟩ := wp_loop (step := l_Law_law_18 X 1 1 80) (Q := LQ) LI 512 (by decide) (s := (0, MIn)) ⟨rfl, in_INV, by show mN MIn ≤ 109 + 0; rw [iM_N]; decide, by show mZ MIn ≤ 220000 + 10240 * 0; exact iM_Z⟩ (fun j s hj h => law_step hX hX2 hj h)
  obtain ⟨r, M'⟩ := t
  have q1 : r = 1 := q1
  subst q1
  exact ⟨M', law_start ht, q2, q3⟩

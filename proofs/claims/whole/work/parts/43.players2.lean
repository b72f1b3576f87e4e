/-- an answer, the memory behind it, what stays -/
def Rs (x : Option (Int × Mm)) (r : Int) (S : Nat → Prop) (M : Mm) (P : Mm → Prop) : Prop := ∃ M', x = some (r, M') ∧ P M' ∧ Al S M M' ∧ mN M' = mN M ∧ mZ M' = mZ M
theorem Rs_rf {x : Option (Int × Mm)} {r : Int} {S : Nat → Prop} {M : Mm} {P : Mm → Prop} (h : x = some (r, M)) (hp : P M) : Rs x r S M P := ⟨M, h, hp, Al_rf, rfl, rfl⟩
def oP (c : Nat) : Prop := ¬ (1 ≤ c ∧ c ≤ 5)
/-! player -/
def cPlayer (s : SP) (a d : Int) : Prop := (0 ≤ a ∧ a ≤ 99) ∧ (0 ≤ d ∧ d ≤ 999) ∧ s.1 < 14
theorem dPlayer (s : SP) (a d : Int) : cPlayer s a d ∨ ¬ cPlayer s a d := Classical.em _
def nPlayer (s : SP) (a d : Int) : SP := (s.1 + 1, va_up s.2.1 s.1 a, va_up s.2.2.1 s.1 d, s.2.2.2)
theorem okPlayer {s : SP} {a d : Int} (h : OKp s) (hc : cPlayer s a d) : OKp (nPlayer s a d) := by
  obtain ⟨h1, h2, h3, h4, h5, h6⟩ := h
  obtain ⟨c1, c2, c3⟩ := hc
  refine ⟨c3, fun p => ?_, fun p => ?_, h4, h5, fun p hp => h6 p (by have : s.1 + 1 ≤ p := hp; omega)⟩
  · show 0 ≤ va_up s.2.1 s.1 a p ∧ va_up s.2.1 s.1 a p ≤ 99
    unfold va_up; split
    · exact c1
    · exact h2 p
  · show 0 ≤ va_up s.2.2.1 s.1 d p ∧ va_up s.2.2.1 s.1 d p ≤ 999
    unfold va_up; split
    · exact c2
    · exact h3 p
theorem b_join {s : SP} {M : Mm} (h : CBp s M) (a d : Int) (hn : s.1 < 14) : Rs (f_Players_join M 2 a d) (s.1 : Int) oP M (CBp (nPlayer s a d)) := by
  obtain ⟨⟨a0, a1, a2, a3, a4⟩, ⟨l1, l2, l3, l4⟩, hs, hag, hpa, hco, b, hb, hb2, hbt⟩ := h
  have hn2 : (s.1 : Int) < 14 := by omega
  obtain ⟨e1, e2⟩ : w32 ((s.1 : Int) + 1) = (s.1 : Int) + 1 ∧ w32 (s.1 : Int) = (s.1 : Int) := ⟨w32_s (by omega) (by omega), w32_s (by omega) (by omega)⟩
  refine ⟨mp (mp (mp M 2 s.1 a) 3 s.1 d) 1 4 ((s.1 : Int) + 1), ?_, ?_, ?_, rfl, rfl⟩
  · unfold f_Players_join
    simp [lt, cI, mg_mp, ml_mp, hs, a1, a2, l1, l2, e1, e2, Int.add_sub_cancel, hn2]
  · clear e1 e2
    refine ⟨?_, ?_, ?_, fun p hp => ?_, ?_, ?_, b, ?_, hb2, hbt⟩
    · simp [mg_mp, a0, a1, a2, a3, a4]
    · simp [ml_mp, l1, l2, l3, l4]
    · simp [mg_mp, nPlayer]
    · simp only [nPlayer, va_up, mg_mp]
      have hp : p < s.1 + 1 := hp
      by_cases e : p = s.1
      · simp [e]
      · have := hag p (Nat.lt_of_le_of_ne (Nat.le_of_lt_succ hp) e)
        simp [e, this.1, this.2]
    · intro p hp; simp [mg_mp, nPlayer]; exact hpa p hp
    · intro p i hp hi; simp [mg_mp, nPlayer]; exact hco p i hp hi
    · simp [mg_mp, hb]
  · clear e1 e2
    exact Al_tr (Al_tr (Al_mp (by unfold oP; omega)) (Al_mp (by unfold oP; omega))) (Al_mp (by unfold oP; omega))
theorem b_player_t {s : SP} {M : Mm} (h : CBp s M) {a d : Int} (hc : cPlayer s a d) : Rs (f_Band_player M 1 a d) (s.1 : Int) oP M (CBp (nPlayer s a d)) := by
  obtain ⟨M', e, r⟩ := b_join h a d hc.2.2
  refine ⟨M', ?_, r⟩
  unfold f_Band_player
  simp [q_within, q_day, hc.1.1, hc.1.2, hc.2.1.1, hc.2.1.2, cI, h.1.1, e]
theorem b_player_f {s : SP} {M : Mm} (h : CBp s M) {a d : Int} (hc : ¬ cPlayer s a d) : Rs (f_Band_player M 1 a d) (-1) oP M (CBp s) := by
  refine Rs_rf ?_ h
  unfold f_Band_player
  have hs : mg M (cI 2) 4 = (s.1 : Int) := h.2.2.1
  by_cases c1 : 0 ≤ a ∧ a ≤ 99
  · by_cases c2 : 0 ≤ d ∧ d ≤ 999
    · have c3 : ¬ s.1 < 14 := fun c3 => hc ⟨c1, c2, c3⟩
      have c4 : ¬ (s.1 : Int) < 14 := by omega
      have ej : f_Players_join M 2 a d = some (-1, M) := by
        unfold f_Players_join; rw [hs, if_neg c4]
      simp [q_within, q_day, c1, c2, cI, h.1.1, ej]
    · simp [q_within, q_day, c1, c2]
  · simp [q_within, c1]

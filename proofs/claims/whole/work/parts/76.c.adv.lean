/-! the class's tape: a token on, a fault, the words -/
theorem isSm_t {x : Int} (h1 : 97 ≤ x) (h2 : x ≤ 122) : isSm x = true := by unfold isSm; rw [decide_eq_true h1, decide_eq_true h2]; rfl
theorem isSm_f {x : Int} (h : ¬ (97 ≤ x ∧ x ≤ 122)) : isSm x = false := by
  cases c : isSm x with
  | false => rfl
  | true => unfold isSm at c; rw [Bool.and_eq_true, decide_eq_true_iff, decide_eq_true_iff] at c; exact absurd c h
theorem isDg_t {x : Int} (h1 : 48 ≤ x) (h2 : x ≤ 57) : isDg x = true := by unfold isDg; rw [decide_eq_true h1, decide_eq_true h2]; rfl
theorem isDg_f {x : Int} (h : ¬ (48 ≤ x ∧ x ≤ 57)) : isDg x = false := by
  cases c : isDg x with
  | false => rfl
  | true => unfold isDg at c; rw [Bool.and_eq_true, decide_eq_true_iff, decide_eq_true_iff] at c; exact absurd c h
def tks (n : Nat) (b : Nat → Int) (dg p tk : Nat) : Nat := if tTg n b dg p = 0 then tk else tk + 1
section TA
variable {n : Nat} {b : Nat → Int} {dg p tk : Nat} {M : Mm}
theorem LX_mk {M' : Mm} (h3 : mg M' 48 3 = (tEn n b p : Int)) (h4 : mg M' 48 4 = ckd n b dg p) (h5 : mg M' 48 5 = (tPl n b p : Int)) (h6 : tTg n b dg p = 2 → mg M' 48 6 = c5 (tLs n b p)) (h6' : tTg n b dg p = 3 → mg M' 48 6 = tVl n b p) (h7 : mg M' 48 7 = (tk : Int)) (h8 : mg M' 48 8 = 0) (h9 : mg M' 48 9 = -1) : LX n b dg p tk M' := ⟨h3, h4, h5, h6, h6', h7, h8, h9⟩
theorem b_advance (h : TB n b dg M) (ho : OKt n b) (hdg : dg ≤ 4) (hp : p ≤ n) (h3 : mg M 48 3 = (p : Int)) (h7 : mg M 48 7 = (tk : Int)) (h8 : mg M 48 8 = 0) (h9 : mg M 48 9 = -1) (htk : tk ≤ 800) : wp (f_Tape_advance M 49) (fun M' => Fr WLx M M' ∧ TB n b dg M' ∧ LX n b dg p (tks n b dg p tk) M') := by
  have hn := ho.1
  have hpn : tPl n b p ≤ n := t_pln hn hp
  refine wM (P := fun M' => Fr WLx M M' ∧ LX n b dg p (tks n b dg p tk) M') ?_ (fun M' hm => ⟨hm.1, TB_lx h hm.1, hm.2⟩)
  unfold f_Tape_advance
  refine wI h8 (wK (b_adv8 h hn hp h3) (fun m hm => ?_))
  obtain ⟨hf0, e3⟩ := hm
  have hf : Fr WLx M m := Fr_sub hf0 (fun c x w => by unfold WLx; omega)
  have g7 : mg m 48 7 = (tk : Int) := (hf0.1 48 7 (by omega)).trans h7
  have g8 : mg m 48 8 = 0 := (hf0.1 48 8 (by omega)).trans h8
  have g9 : mg m 48 9 = -1 := (hf0.1 48 9 (by omega)).trans h9
  unfold j_Tape_advance_60
  rw [show cI 49 = 48 from rfl, e3]
  refine wL (wL ?_)
  obtain ⟨m2, em2⟩ : ∃ m2, m2 = mp (mp m 48 5 (tPl n b p : Int)) 48 6 0 := ⟨_, rfl⟩
  rw [← em2]
  have hf2 : Fr WLx M m2 := by rw [em2]; exact Fr_wr (Fr_wr hf ⟨rfl, by omega⟩) ⟨rfl, by omega⟩
  have k3 : mg m2 48 3 = (tPl n b p : Int) := by rw [em2, mg_mp_n (by omega), mg_mp_n (by omega)]; exact e3
  have k5 : mg m2 48 5 = (tPl n b p : Int) := by rw [em2, mg_mp_n (by omega), mg_mp_s]
  have k6 : mg m2 48 6 = 0 := by rw [em2, mg_mp_s]
  have k7 : mg m2 48 7 = (tk : Int) := by rw [em2, mg_mp_n (by omega), mg_mp_n (by omega)]; exact g7
  have k8 : mg m2 48 8 = 0 := by rw [em2, mg_mp_n (by omega), mg_mp_n (by omega)]; exact g8
  have k9 : mg m2 48 9 = -1 := by rw [em2, mg_mp_n (by omega), mg_mp_n (by omega)]; exact g9
  clear em2
  have h2 : TB n b dg m2 := TB_lx h hf2
  rw [show mg m2 48 1 = (n : Int) from h2.2.1.1, k3]
  refine wC (fun c => ?_) (fun c => ?_)
  · have hT : tTg n b dg p = 0 := by unfold tTg; rw [if_pos (by omega)]
    have hE : tEn n b p = tPl n b p := by unfold tEn; rw [if_pos (by omega)]
    unfold j_Tape_advance_98
    rw [show cI 49 = 48 from rfl]
    refine wL (wE ?_ (wS ⟨Fr_wr hf2 ⟨rfl, by omega⟩, LX_mk ?_ ?_ ?_ ?_ ?_ ?_ ?_ ?_⟩))
    · rw [mg_mp_s]; decide
    · rw [mg_mp_n (by omega), k3, hE]
    · rw [mg_mp_s]; unfold ckd; rw [if_pos hT]
    · rw [mg_mp_n (by omega), k5]
    · intro e; omega
    · intro e; omega
    · rw [mg_mp_n (by omega), k7]; unfold tks; rw [if_pos hT]
    · rw [mg_mp_n (by omega), k8]
    · rw [mg_mp_n (by omega), k9]
  · have hlt : tPl n b p < n := by omega
    rw [show mg m2 48 0 = 50 from p_48_0 h2.1, show cI 50 = 49 from rfl, n_49 h2.1, Int.toNat_natCast, h2.2.1.2 _ hlt]
    refine wI (by decide) (wI (by omega) ?_)
    obtain ⟨x, hx⟩ : ∃ x, b (tPl n b p) = x := ⟨_, rfl⟩
    have hxb := ho.2 (tPl n b p)
    rw [hx] at hxb ⊢
    unfold j_Tape_advance_98
    rw [show cI 49 = 48 from rfl]
    refine wL (wI ?_ ?_)
    · rw [mg_mp_s]; omega
    rw [show mg (mp m2 48 4 x) 48 7 = (tk : Int) by rw [mg_mp_n (by omega), k7], w32_s (by omega) (by omega)]
    refine wL ?_
    obtain ⟨m4, em4⟩ : ∃ m4, m4 = mp (mp m2 48 4 x) 48 7 ((tk : Int) + 1) := ⟨_, rfl⟩
    rw [← em4]
    have hf4 : Fr WLx M m4 := by rw [em4]; exact Fr_wr (Fr_wr hf2 ⟨rfl, by omega⟩) ⟨rfl, by omega⟩
    have l3 : mg m4 48 3 = (tPl n b p : Int) := by rw [em4, mg_mp_n (by omega), mg_mp_n (by omega)]; exact k3
    have l4 : mg m4 48 4 = x := by rw [em4, mg_mp_n (by omega), mg_mp_s]
    have l5 : mg m4 48 5 = (tPl n b p : Int) := by rw [em4, mg_mp_n (by omega), mg_mp_n (by omega)]; exact k5
    have l6 : mg m4 48 6 = 0 := by rw [em4, mg_mp_n (by omega), mg_mp_n (by omega)]; exact k6
    have l7 : mg m4 48 7 = ((tk + 1 : Nat) : Int) := by rw [em4, mg_mp_s]; omega
    have l8 : mg m4 48 8 = 0 := by rw [em4, mg_mp_n (by omega), mg_mp_n (by omega)]; exact k8
    have l9 : mg m4 48 9 = -1 := by rw [em4, mg_mp_n (by omega), mg_mp_n (by omega)]; exact k9
    clear em4
    have h4 : TB n b dg m4 := TB_lx h hf4
    rw [l4]
    -- not a letter
    have noL : isSm x = false → wp (j_Tape_advance_241 m4 49) (fun M' => Fr WLx M M' ∧ LX n b dg p (tks n b dg p tk) M') := fun hs => by
      have by' : ¬ isDg x = true → wp (j_Tape_advance_365 m4 49) (fun M' => Fr WLx M M' ∧ LX n b dg p (tks n b dg p tk) M') := fun hd => by
        have hT : tTg n b dg p = 4 := by unfold tTg; rw [if_neg (by omega), hx, hs, if_neg (by decide), if_neg hd]
        have hE : tEn n b p = tPl n b p + 1 := by unfold tEn; rw [if_neg (by omega), hx, hs, if_neg (by decide), if_neg hd]
        unfold j_Tape_advance_365
        rw [show cI 49 = 48 from rfl, l3, w32_s (by omega) (by omega)]
        refine wL (wS ⟨Fr_wr hf4 ⟨rfl, by omega⟩, LX_mk ?_ ?_ ?_ ?_ ?_ ?_ ?_ ?_⟩)
        · rw [mg_mp_s, hE]; omega
        · rw [mg_mp_n (by omega), l4]; unfold ckd tBy; rw [hT]; simp [hx]
        · rw [mg_mp_n (by omega), l5]
        · intro e; omega
        · intro e; omega
        · rw [mg_mp_n (by omega), l7]; unfold tks; rw [if_neg (by omega)]
        · rw [mg_mp_n (by omega), l8]
        · rw [mg_mp_n (by omega), l9]
      unfold j_Tape_advance_241
      rw [show cI 49 = 48 from rfl, l4]
      refine wC (fun c1 => by' (by rw [isDg_f (by omega)]; decide)) (fun c1 => wC (fun c2 => by' (by rw [isDg_f (by omega)]; decide)) (fun c2 => ?_))
      have hd : isDg x = true := isDg_t (by omega) (by omega)
      refine wK (b_adv259 h4 hn hpn l3 l6) (fun m5 hm5 => ?_)
      obtain ⟨f5, e5, e6⟩ := hm5
      have hf5 : Fr WLx M m5 := Fr_tr hf4 (Fr_sub f5 (fun c x w => by unfold WLx; omega))
      have hE : tEn n b p = sc n b isDg (tPl n b p) := by unfold tEn; rw [if_neg (by omega), hx, hs, if_neg (by decide), if_pos hd]
      have hge : tPl n b p ≤ sc n b isDg (tPl n b p) := sc_ge hn
      have hle : sc n b isDg (tPl n b p) ≤ n := sc_le hn hpn
      have fin : ∀ y, y = ckd n b dg p → LX n b dg p (tks n b dg p tk) (mp m5 48 4 y) := fun y hy => by
        have hT0 : tTg n b dg p ≠ 0 ∧ tTg n b dg p ≠ 2 := by
          unfold tTg; rw [if_neg (by omega), hx, hs, if_neg (by decide), if_pos hd]
          split <;> omega
        refine LX_mk ?_ ?_ ?_ ?_ ?_ ?_ ?_ ?_
        · rw [mg_mp_n (by omega), e5, hE]
        · rw [mg_mp_s, hy]
        · rw [mg_mp_n (by omega), f5.1 48 5 (by omega), l5]
        · intro e; omega
        · intro e
          rw [mg_mp_n (by omega), e6]
          obtain ⟨_, _, _, t4, t5⟩ := t_3 hn e
          rw [hE] at t5
          unfold tVl; rw [hE]
          refine (vWd_eq _ (by omega) (fun i hi => ?_)).1
          have := (sc_all (n := n) (b := b) (P := isDg) hn (show tPl n b p ≤ tPl n b p + i by omega) (by omega)).2
          unfold isDg at this
          rw [Bool.and_eq_true, decide_eq_true_iff, decide_eq_true_iff] at this
          exact this
        · rw [mg_mp_n (by omega), f5.1 48 7 (by omega), l7]; unfold tks; rw [if_neg hT0.1]
        · rw [mg_mp_n (by omega), f5.1 48 8 (by omega), l8]
        · rw [mg_mp_n (by omega), f5.1 48 9 (by omega), l9]
      unfold j_Tape_advance_335 j_Tape_advance_359
      rw [show cI 49 = 48 from rfl, show mg m5 48 2 = (dg : Int) from (f5.1 48 2 (by omega)).trans h4.2.2, e5, show mg m5 48 5 = (tPl n b p : Int) from (f5.1 48 5 (by omega)).trans l5, w32_s (by omega) (by omega)]
      refine wC (fun c3 => wL (wS ⟨Fr_wr hf5 ⟨rfl, by omega⟩, fin _ ?_⟩)) (fun c3 => wL (wS ⟨Fr_wr hf5 ⟨rfl, by omega⟩, fin _ ?_⟩))
      · have : tTg n b dg p = 1 := by unfold tTg; rw [if_neg (by omega), hx, hs, if_neg (by decide), if_pos hd, if_neg (by omega)]
        unfold ckd; rw [this]; rfl
      · have : tTg n b dg p = 3 := by unfold tTg; rw [if_neg (by omega), hx, hs, if_neg (by decide), if_pos hd, if_pos (by omega)]
        unfold ckd; rw [this]; rfl
    refine wC (fun c1 => noL (isSm_f (by omega))) (fun c1 => wC (fun c2 => noL (isSm_f (by omega))) (fun c2 => ?_))
    have hs : isSm x = true := isSm_t (by omega) (by omega)
    refine wK (b_adv138 h4 hn hpn l3 l6) (fun m5 hm5 => ?_)
    obtain ⟨f5, e5, e6⟩ := hm5
    have hf5 : Fr WLx M m5 := Fr_tr hf4 (Fr_sub f5 (fun c x w => by unfold WLx; omega))
    have hE : tEn n b p = sc n b isSm (tPl n b p) := by unfold tEn; rw [if_neg (by omega), hx, if_pos hs]
    have hge : tPl n b p ≤ sc n b isSm (tPl n b p) := sc_ge hn
    have hle : sc n b isSm (tPl n b p) ≤ n := sc_le hn hpn
    have fin : ∀ y, y = ckd n b dg p → LX n b dg p (tks n b dg p tk) (mp m5 48 4 y) := fun y hy => by
      have hT0 : tTg n b dg p ≠ 0 ∧ tTg n b dg p ≠ 3 := by
        unfold tTg; rw [if_neg (by omega), hx, if_pos hs]
        split <;> omega
      refine LX_mk ?_ ?_ ?_ ?_ ?_ ?_ ?_ ?_
      · rw [mg_mp_n (by omega), e5, hE]
      · rw [mg_mp_s, hy]
      · rw [mg_mp_n (by omega), f5.1 48 5 (by omega), l5]
      · intro e
        rw [mg_mp_n (by omega), e6]
        obtain ⟨_, _, _, t4, t5⟩ := t_2 hn e
        rw [hE] at t4
        unfold tLs; rw [hE, c5_ls]
        refine (vW5_eq _ (by omega) (fun i hi => ?_)).1
        have := (sc_all (n := n) (b := b) (P := isSm) hn (show tPl n b p ≤ tPl n b p + i by omega) (by omega)).2
        unfold isSm at this
        rw [Bool.and_eq_true, decide_eq_true_iff, decide_eq_true_iff] at this
        exact this
      · intro e; omega
      · rw [mg_mp_n (by omega), f5.1 48 7 (by omega), l7]; unfold tks; rw [if_neg hT0.1]
      · rw [mg_mp_n (by omega), f5.1 48 8 (by omega), l8]
      · rw [mg_mp_n (by omega), f5.1 48 9 (by omega), l9]
    unfold j_Tape_advance_213 j_Tape_advance_235
    rw [show cI 49 = 48 from rfl, e5, show mg m5 48 5 = (tPl n b p : Int) from (f5.1 48 5 (by omega)).trans l5, w32_s (by omega) (by omega)]
    refine wC (fun c3 => wL (wS ⟨Fr_wr hf5 ⟨rfl, by omega⟩, fin _ ?_⟩)) (fun c3 => wL (wS ⟨Fr_wr hf5 ⟨rfl, by omega⟩, fin _ ?_⟩))
    · have : tTg n b dg p = 1 := by unfold tTg; rw [if_neg (by omega), hx, if_pos hs, if_neg (by omega)]
      unfold ckd; rw [this]; rfl
    · have : tTg n b dg p = 2 := by unfold tTg; rw [if_neg (by omega), hx, if_pos hs, if_pos (by omega)]
      unfold ckd; rw [this]; rfl
end TA

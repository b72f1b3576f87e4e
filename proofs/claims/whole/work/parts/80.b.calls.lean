/-! one call on both sides -/
section STP
variable {M : Mm}
theorem inv_mk {n : Nat} {ag jo pa : Nat → Int} {co : Nat → Nat → Int} {he : Nat → Bool} {w : Nat} {wc wd wt : Nat → Int} {tl : Nat} {tb : Nat → Int} {fk fp : Int} {m : Nat} {lb : Nat → PcD} {ch : Nat → Nat → Int} {rl : List Int} {gl : Nat} {gs : Int} {gr : Nat → Nat} (h1 : IOx n ag jo pa co he w wc wd wt tl tb fk fp m lb ch rl gl gs gr) (h2 : IBx n ag jo pa co he w wc wd wt tl tb fk fp m lb ch rl gl gs gr M) (h3 : IMx n ag jo pa co he w wc wd wt tl tb fk fp m lb ch rl gl gs gr M) : INV M := ⟨_, _, _, _, _, _, _, _, _, _, _, _, _, _, _, _, _, _, _, _, _, h1, h2, h3⟩
theorem wp0 {c x : Nat} (h : WMm c x) : 79 ≤ c ∧ ¬ isP c x := by unfold WMm at h; unfold isP; omega
theorem st_cost (h : INV M) (p i : Int) : wp (f_Band_cost M 1 p i) (fun a => wp (f_Model_cost M 80 p i) (fun q => a = q.1 ∧ GOOD M q.2)) := by
  obtain ⟨n, ag, jo, pa, co, he, w, wc, wd, wt, tl, tb, fk, fp, m, lb, ch, rl, gl, gs, gr, hO, hB, hM⟩ := h
  have hO' := hO
  have hB' := hB
  have hM' := hM
  obtain ⟨op, ow, ot, ol, okr, og⟩ := hO'
  obtain ⟨hs, bp, bw, bt, bf, bl, br, bg, b64, b71, bpc⟩ := hB'
  obtain ⟨ap, aw, at1, af, al, ar, ag1⟩ := hM'
  have i0 : GOOD M (mp M 79 0 0) := good_1 f00 (inv_mk hO (IB_rf ol.1 hB f00 (fun _ _ v => wp0 v)) (IM_m hM f00))
  exact eq_w (b_cost hs bp op.1 p i) (eq_w (m_cost hs ap op.1 op.2.2.1 p i) ⟨rfl, i0⟩)
theorem st_fault (h : INV M) (x : Int) : wp (f_Band_fault M 1 x) (fun a => wp (f_Model_fault M 80 x) (fun q => a = q.1 ∧ GOOD M q.2)) := by
  obtain ⟨n, ag, jo, pa, co, he, w, wc, wd, wt, tl, tb, fk, fp, m, lb, ch, rl, gl, gs, gr, hO, hB, hM⟩ := h
  have hO' := hO
  have hB' := hB
  have hM' := hM
  obtain ⟨op, ow, ot, ol, okr, og⟩ := hO'
  obtain ⟨hs, bp, bw, bt, bf, bl, br, bg, b64, b71, bpc⟩ := hB'
  obtain ⟨ap, aw, at1, af, al, ar, ag1⟩ := hM'
  have i0 : GOOD M (mp M 79 0 0) := good_1 f00 (inv_mk hO (IB_rf ol.1 hB f00 (fun _ _ v => wp0 v)) (IM_m hM f00))
  exact eq_w (b_fault hs bf x) (eq_w (m_fault af x) ⟨rfl, i0⟩)
theorem st_piece (h : INV M) (y : Int) {x : Int} (hx : ok32 x) : wp (f_Band_piece M 1 y x) (fun a => wp (f_Model_piece M 80 y x) (fun q => a = q.1 ∧ GOOD M q.2)) := by
  obtain ⟨n, ag, jo, pa, co, he, w, wc, wd, wt, tl, tb, fk, fp, m, lb, ch, rl, gl, gs, gr, hO, hB, hM⟩ := h
  have hO' := hO
  have hB' := hB
  have hM' := hM
  obtain ⟨op, ow, ot, ol, okr, og⟩ := hO'
  obtain ⟨hs, bp, bw, bt, bf, bl, br, bg, b64, b71, bpc⟩ := hB'
  obtain ⟨ap, aw, at1, af, al, ar, ag1⟩ := hM'
  have i0 : GOOD M (mp M 79 0 0) := good_1 f00 (inv_mk hO (IB_rf ol.1 hB f00 (fun _ _ v => wp0 v)) (IM_m hM f00))
  exact eq_w (b_piece hs bl ol.1 (fun k hk => (ol.2 k hk).1) y hx) (eq_w (m_piece hs al ol.1 (fun k hk => (ol.2 k hk).1) y hx) ⟨rfl, i0⟩)
theorem st_chair (h : INV M) (y x : Int) : wp (f_Band_chair M 1 y x) (fun a => wp (f_Model_chair M 80 y x) (fun q => a = q.1 ∧ GOOD M q.2)) := by
  obtain ⟨n, ag, jo, pa, co, he, w, wc, wd, wt, tl, tb, fk, fp, m, lb, ch, rl, gl, gs, gr, hO, hB, hM⟩ := h
  have hO' := hO
  have hB' := hB
  have hM' := hM
  obtain ⟨op, ow, ot, ol, okr, og⟩ := hO'
  obtain ⟨hs, bp, bw, bt, bf, bl, br, bg, b64, b71, bpc⟩ := hB'
  obtain ⟨ap, aw, at1, af, al, ar, ag1⟩ := hM'
  have i0 : GOOD M (mp M 79 0 0) := good_1 f00 (inv_mk hO (IB_rf ol.1 hB f00 (fun _ _ v => wp0 v)) (IM_m hM f00))
  exact eq_w (b_chair hs bl ol y x) (eq_w (m_chair hs al ol op.1 y x) ⟨rfl, i0⟩)
theorem st_seating (h : INV M) (y x : Int) : wp (f_Band_seating M 1 y x) (fun a => wp (f_Model_seating M 80 y x) (fun q => a = q.1 ∧ GOOD M q.2)) := by
  obtain ⟨n, ag, jo, pa, co, he, w, wc, wd, wt, tl, tb, fk, fp, m, lb, ch, rl, gl, gs, gr, hO, hB, hM⟩ := h
  have hO' := hO
  have hB' := hB
  have hM' := hM
  obtain ⟨op, ow, ot, ol, okr, og⟩ := hO'
  obtain ⟨hs, bp, bw, bt, bf, bl, br, bg, b64, b71, bpc⟩ := hB'
  obtain ⟨ap, aw, at1, af, al, ar, ag1⟩ := hM'
  have i0 : GOOD M (mp M 79 0 0) := good_1 f00 (inv_mk hO (IB_rf ol.1 hB f00 (fun _ _ v => wp0 v)) (IM_m hM f00))
  exact eq_w (b_seating hs bp op.2.2.1 op.1 bl ol y x) (eq_w (m_seating hs ap op.2.2.1 op.1 al ol y x) ⟨rfl, i0⟩)
theorem st_strain (h : INV M)  : wp (f_Band_strain M 1) (fun a => wp (f_Model_strain M 80) (fun q => a = q.1 ∧ GOOD M q.2)) := by
  obtain ⟨n, ag, jo, pa, co, he, w, wc, wd, wt, tl, tb, fk, fp, m, lb, ch, rl, gl, gs, gr, hO, hB, hM⟩ := h
  have hO' := hO
  have hB' := hB
  have hM' := hM
  obtain ⟨op, ow, ot, ol, okr, og⟩ := hO'
  obtain ⟨hs, bp, bw, bt, bf, bl, br, bg, b64, b71, bpc⟩ := hB'
  obtain ⟨ap, aw, at1, af, al, ar, ag1⟩ := hM'
  have i0 : GOOD M (mp M 79 0 0) := good_1 f00 (inv_mk hO (IB_rf ol.1 hB f00 (fun _ _ v => wp0 v)) (IM_m hM f00))
  refine eq_w (a := gs) ?_ (eq_w (a := (gs, mp M 79 0 0)) ?_ ⟨rfl, i0⟩)
  · unfold f_Band_strain
    rw [show cI 1 = 0 from rfl, p_0_7 hs, if_pos (by decide), show cI 73 = 72 from rfl, bg.2.1]
  · unfold f_Model_strain
    simp only [lt]
    rw [show cI 80 = 79 from rfl, mg_mp_n (by omega), ag1.2.1]
theorem st_plan (h : INV M) (x : Int) : wp (f_Band_plan M 1 x) (fun a => wp (f_Model_plan M 80 x) (fun q => a = q.1 ∧ GOOD M q.2)) := by
  obtain ⟨n, ag, jo, pa, co, he, w, wc, wd, wt, tl, tb, fk, fp, m, lb, ch, rl, gl, gs, gr, hO, hB, hM⟩ := h
  have hO' := hO
  have hB' := hB
  have hM' := hM
  obtain ⟨op, ow, ot, ol, okr, og⟩ := hO'
  obtain ⟨hs, bp, bw, bt, bf, bl, br, bg, b64, b71, bpc⟩ := hB'
  obtain ⟨ap, aw, at1, af, al, ar, ag1⟩ := hM'
  have i0 : GOOD M (mp M 79 0 0) := good_1 f00 (inv_mk hO (IB_rf ol.1 hB f00 (fun _ _ v => wp0 v)) (IM_m hM f00))
  have s0 : Sh (mp M 79 0 0) := Sh_mp hs (by unfold isP; omega)
  refine eq_w (a := if 0 ≤ x ∧ x < (gl : Int) then (gr x.toNat : Int) else -1) ?_ (eq_w (a := (if 0 ≤ x ∧ x < (gl : Int) then (gr x.toNat : Int) else -1, mp M 79 0 0)) ?_ ⟨rfl, i0⟩)
  · unfold f_Band_plan
    rw [show cI 1 = 0 from rfl, p_0_7 hs, if_pos (by decide), show cI 73 = 72 from rfl, bg.1, w32_s (by omega) (by omega), q_within, Option.bind_some, p_72_0 hs, show cI 74 = 73 from rfl, n_73 hs]
    by_cases c : 0 ≤ x ∧ x < (gl : Int)
    · rw [if_pos (show 0 ≤ x ∧ x ≤ (gl : Int) - 1 by omega), if_neg (by decide), if_pos (by decide), if_pos (by omega), if_pos c, bg.2.2 _ (by omega)]
    · rw [if_neg (show ¬ (0 ≤ x ∧ x ≤ (gl : Int) - 1) by omega), if_pos rfl, if_neg c]
  · unfold f_Model_plan
    simp only [lt]
    rw [show cI 80 = 79 from rfl, show mg (mp M 79 0 0) 79 18 = (gl : Int) by rw [mg_mp_n (by omega)]; exact ag1.1, p_79_20 s0, show cI 96 = 95 from rfl, n_95 s0]
    by_cases c : 0 ≤ x ∧ x < (gl : Int)
    · rw [if_neg (by omega), if_neg (by omega), if_pos (by decide), if_pos (by omega), if_pos c, mg_mp_n (by omega), ag1.2.2 _ (by omega)]
    · rw [if_neg c]
      by_cases c1 : x < 0
      · rw [if_pos c1]
      · rw [if_neg c1, if_pos (by omega)]
theorem st_player (h : INV M) (a d : Int) : wp (f_Band_player M 1 a d) (fun p => wp (f_Model_player p.2 80 a d) (fun q => p.1 = q.1 ∧ GOOD M q.2)) := by
  obtain ⟨n, ag, jo, pa, co, he, w, wc, wd, wt, tl, tb, fk, fp, m, lb, ch, rl, gl, gs, gr, hO, hB, hM⟩ := h
  have hO' := hO
  have hB' := hB
  have hM' := hM
  obtain ⟨op, ow, ot, ol, okr, og⟩ := hO'
  obtain ⟨hs, bp, bw, bt, bf, bl, br, bg, b64, b71, bpc⟩ := hB'
  obtain ⟨ap, aw, at1, af, al, ar, ag1⟩ := hM'
  have i0 : GOOD M (mp M 79 0 0) := good_1 f00 (inv_mk hO (IB_rf ol.1 hB f00 (fun _ _ v => wp0 v)) (IM_m hM f00))
  by_cases c : (0 ≤ a ∧ a ≤ 99) ∧ (0 ≤ d ∧ d ≤ 999) ∧ n < 14
  · have okx : IOx (n + 1) (up ag n a) (up jo n d) pa co he w wc wd wt tl tb fk fp m lb ch rl gl gs gr := ⟨⟨by omega, op.2.1, op.2.2.1, fun p hp => op.2.2.2 p (by omega)⟩, ow, ot, ⟨ol.1, fun k hk => ⟨(ol.2 k hk).1, fun i hi => by have := (ol.2 k hk).2 i hi; omega⟩⟩, okr, og⟩
    refine wM (b_player_t hs bp c.1 c.2.1 c.2.2) (fun p hp => ?_)
    have hB1 := IB_pl ol.1 hB hp.2.2 hp.2.1
    have hM1 := IM_cl hM hp.2.2 (fun c x v => by unfold WPl at v; omega)
    refine wM (m_player_t hB1.1 hM1.1 c.1 c.2.1 c.2.2) (fun q hq => ⟨hp.1.trans hq.1.symm, good_2 hp.2.2 hq.2.2 (inv_mk okx (IB_rf ol.1 hB1 hq.2.2 (fun c x v => by unfold WMp at v; unfold isP; omega)) (IM_pl hM1 hq.2.2 hq.2.1))⟩)
  · exact eq_w (b_player_f hs bp c) (eq_w (m_player_f ap op.1 c) ⟨rfl, i0⟩)
theorem st_plays (h : INV M) (p i z : Int) : wp (f_Band_plays M 1 p i z) (fun p' => wp (f_Model_plays p'.2 80 p i z) (fun q => p'.1 = q.1 ∧ GOOD M q.2)) := by
  obtain ⟨n, ag, jo, pa, co, he, w, wc, wd, wt, tl, tb, fk, fp, m, lb, ch, rl, gl, gs, gr, hO, hB, hM⟩ := h
  have hO' := hO
  have hB' := hB
  have hM' := hM
  obtain ⟨op, ow, ot, ol, okr, og⟩ := hO'
  obtain ⟨hs, bp, bw, bt, bf, bl, br, bg, b64, b71, bpc⟩ := hB'
  obtain ⟨ap, aw, at1, af, al, ar, ag1⟩ := hM'
  have i0 : GOOD M (mp M 79 0 0) := good_1 f00 (inv_mk hO (IB_rf ol.1 hB f00 (fun _ _ v => wp0 v)) (IM_m hM f00))
  by_cases c : (0 ≤ p ∧ p < (n : Int)) ∧ (0 ≤ i ∧ i ≤ 9) ∧ (-1 ≤ z ∧ z ≤ 9)
  · obtain ⟨p, rfl⟩ : ∃ p' : Nat, p = (p' : Int) := ⟨p.toNat, by omega⟩
    obtain ⟨i, rfl⟩ : ∃ i' : Nat, i = (i' : Int) := ⟨i.toNat, by omega⟩
    have okx : IOx n ag jo pa (up2 co p i z) he w wc wd wt tl tb fk fp m lb ch rl gl gs gr := ⟨⟨op.1, op.2.1, fun p' i' => by unfold up2; split; exact c.2.2; exact op.2.2.1 p' i', op.2.2.2⟩, ow, ot, ol, okr, og⟩
    refine wM (b_plays_t hs bp op.1 (by omega) (by omega) c.2.2) (fun p hp => ?_)
    have hB1 := IB_pl ol.1 hB hp.2.2 hp.2.1
    have hM1 := IM_cl hM hp.2.2 (fun c x v => by unfold WPl at v; omega)
    refine wM (m_plays_t hB1.1 hM1.1 op.1 (by omega) (by omega) c.2.2) (fun q hq => ⟨hp.1.trans hq.1.symm, good_2 hp.2.2 hq.2.2 (inv_mk okx (IB_rf ol.1 hB1 hq.2.2 (fun c x v => by unfold WMp at v; unfold isP; omega)) (IM_pl hM1 hq.2.2 hq.2.1))⟩)
  · exact eq_w (b_plays_f hs bp c) (eq_w (m_plays_f ap c) ⟨rfl, i0⟩)
theorem st_here (h : INV M) (x : Int) {v : Int} (hv : v = 0 ∨ v = 1) : wp (f_Band_here M 1 x v) (fun p => wp (f_Model_here p.2 80 x v) (fun q => p.1 = q.1 ∧ GOOD M q.2)) := by
  obtain ⟨n, ag, jo, pa, co, he, w, wc, wd, wt, tl, tb, fk, fp, m, lb, ch, rl, gl, gs, gr, hO, hB, hM⟩ := h
  have hO' := hO
  have hB' := hB
  have hM' := hM
  obtain ⟨op, ow, ot, ol, okr, og⟩ := hO'
  obtain ⟨hs, bp, bw, bt, bf, bl, br, bg, b64, b71, bpc⟩ := hB'
  obtain ⟨ap, aw, at1, af, al, ar, ag1⟩ := hM'
  have i0 : GOOD M (mp M 79 0 0) := good_1 f00 (inv_mk hO (IB_rf ol.1 hB f00 (fun _ _ v => wp0 v)) (IM_m hM f00))
  by_cases c : 0 ≤ x ∧ x < (n : Int)
  · obtain ⟨x, rfl⟩ : ∃ x' : Nat, x = (x' : Int) := ⟨x.toNat, by omega⟩
    have okx : IOx n ag jo pa co (up he x (decide (v = 1))) w wc wd wt tl tb fk fp m lb ch rl gl gs gr := ⟨⟨op.1, op.2.1, op.2.2.1, fun q hq => by rw [up_n (by omega)]; exact op.2.2.2 q hq⟩, ow, ot, ol, okr, og⟩
    refine wM (b_here_t hs bp op.1 (by omega) hv) (fun p hp => ?_)
    have hB1 := IB_pl ol.1 hB hp.2.2 hp.2.1
    have hM1 := IM_cl hM hp.2.2 (fun c x v => by unfold WPl at v; omega)
    refine wM (m_here_t hB1.1 hM1.1 op.1 (by omega) hv) (fun q hq => ⟨hp.1.trans hq.1.symm, good_2 hp.2.2 hq.2.2 (inv_mk okx (IB_rf ol.1 hB1 hq.2.2 (fun c x v => by unfold WMp at v; unfold isP; omega)) (IM_pl hM1 hq.2.2 hq.2.1))⟩)
  · exact eq_w (b_here_f hs bp c) (eq_w (m_here_f ap c) ⟨rfl, i0⟩)
theorem st_contest (h : INV M) (x : Int) : wp (f_Band_contest M 1 x) (fun p => wp (f_Model_contest p.2 80 x) (fun q => p.1 = q.1 ∧ GOOD M q.2)) := by
  obtain ⟨n, ag, jo, pa, co, he, w, wc, wd, wt, tl, tb, fk, fp, m, lb, ch, rl, gl, gs, gr, hO, hB, hM⟩ := h
  have hO' := hO
  have hB' := hB
  have hM' := hM
  obtain ⟨op, ow, ot, ol, okr, og⟩ := hO'
  obtain ⟨hs, bp, bw, bt, bf, bl, br, bg, b64, b71, bpc⟩ := hB'
  obtain ⟨ap, aw, at1, af, al, ar, ag1⟩ := hM'
  have i0 : GOOD M (mp M 79 0 0) := good_1 f00 (inv_mk hO (IB_rf ol.1 hB f00 (fun _ _ v => wp0 v)) (IM_m hM f00))
  by_cases c : (0 ≤ x ∧ x < (n : Int)) ∧ pa x.toNat < 1000
  · obtain ⟨x, rfl⟩ : ∃ x' : Nat, x = (x' : Int) := ⟨x.toNat, by omega⟩
    rw [Int.toNat_natCast] at c
    have hb := op.2.1
    have okx : IOx n ag jo (up pa x (pa x + 1)) co he w wc wd wt tl tb fk fp m lb ch rl gl gs gr := ⟨⟨op.1, fun p' => by have := hb p'; have := hb x; unfold up; split <;> omega, op.2.2.1, op.2.2.2⟩, ow, ot, ol, okr, og⟩
    refine wM (b_contest_t hs bp op.1 (by omega) (hb x).1 c.2) (fun p hp => ?_)
    have hB1 := IB_pl ol.1 hB hp.2.2 hp.2.1
    have hM1 := IM_cl hM hp.2.2 (fun c x v => by unfold WPl at v; omega)
    refine wM (m_contest_t hB1.1 hM1.1 op.1 (by omega) (hb x).1 c.2) (fun q hq => ⟨hp.1.trans hq.1.symm, good_2 hp.2.2 hq.2.2 (inv_mk okx (IB_rf ol.1 hB1 hq.2.2 (fun c x v => by unfold WMp at v; unfold isP; omega)) (IM_pl hM1 hq.2.2 hq.2.1))⟩)
  · exact eq_w (b_contest_f hs bp op.1 c) (eq_w (m_contest_f hs ap op.1 op.2.1 c) ⟨rfl, i0⟩)
theorem st_tell (h : INV M) (x d t : Int) : wp (f_Band_tell M 1 x d t) (fun p => wp (f_Model_tell p.2 80 x d t) (fun q => p.1 = q.1 ∧ GOOD M q.2)) := by
  obtain ⟨n, ag, jo, pa, co, he, w, wc, wd, wt, tl, tb, fk, fp, m, lb, ch, rl, gl, gs, gr, hO, hB, hM⟩ := h
  have hO' := hO
  have hB' := hB
  have hM' := hM
  obtain ⟨op, ow, ot, ol, okr, og⟩ := hO'
  obtain ⟨hs, bp, bw, bt, bf, bl, br, bg, b64, b71, bpc⟩ := hB'
  obtain ⟨ap, aw, at1, af, al, ar, ag1⟩ := hM'
  have i0 : GOOD M (mp M 79 0 0) := good_1 f00 (inv_mk hO (IB_rf ol.1 hB f00 (fun _ _ v => wp0 v)) (IM_m hM f00))
  rcases Classical.em (cTell n w x d t) with c | c
  · have okx : IOx n ag jo pa co he (w + 1) (up wc w x) (up wd w d) (up wt w t) tl tb fk fp m lb ch rl gl gs gr := ⟨op, ⟨by have := c.2.2.2; omega, fun j hj => by have h1 := c.1; unfold up; split; omega; exact ow.2 j (by omega)⟩, ot, ol, okr, og⟩
    refine wM (b_tell_t hs bp.1 bw c) (fun p hp => ?_)
    have hB1 := IB_no ol.1 hB hp.2.2 hp.2.1
    have hM1 := IM_cl hM hp.2.2 (fun c x v => by unfold WNo at v; omega)
    refine wM (m_tell_t hB1.1 hM1.1.1 hM1.2.1 c) (fun q hq => ⟨hp.1.trans hq.1.symm, good_2 hp.2.2 hq.2.2 (inv_mk okx (IB_rf ol.1 hB1 hq.2.2 (fun c x v => by unfold WMw at v; unfold isP; omega)) (IM_w hM1 hq.2.2 hq.2.1))⟩)
  · exact eq_w (b_tell_f hs bp.1 bw c) (eq_w (m_tell_f ap.1 aw ow.1 c) ⟨rfl, i0⟩)
theorem st_feed (h : INV M) (a1 a2 a3 a4 a5 : Int) : wp (f_Band_feed M 1 a1 a2 a3 a4 a5) (fun p => wp (f_Model_feed p.2 80 a1 a2 a3 a4 a5) (fun q => p.1 = q.1 ∧ GOOD M q.2)) := by
  obtain ⟨n, ag, jo, pa, co, he, w, wc, wd, wt, tl, tb, fk, fp, m, lb, ch, rl, gl, gs, gr, hO, hB, hM⟩ := h
  have hO' := hO
  have hB' := hB
  have hM' := hM
  obtain ⟨op, ow, ot, ol, okr, og⟩ := hO'
  obtain ⟨hs, bp, bw, bt, bf, bl, br, bg, b64, b71, bpc⟩ := hB'
  obtain ⟨ap, aw, at1, af, al, ar, ag1⟩ := hM'
  have i0 : GOOD M (mp M 79 0 0) := good_1 f00 (inv_mk hO (IB_rf ol.1 hB f00 (fun _ _ v => wp0 v)) (IM_m hM f00))
  by_cases c : tl + 20 ≤ 800
  · have okx : IOx n ag jo pa co he w wc wd wt (tl + 20) (ap5 tb tl a1 a2 a3 a4 a5) fk fp m lb ch rl gl gs gr := ⟨op, ow, ap5_ok ot a1 a2 a3 a4 a5 c, ol, okr, og⟩
    refine wM (b_feed_t hs bt a1 a2 a3 a4 a5 c) (fun p hp => ?_)
    have hB1 := IB_ta ol.1 hB hp.2.2 hp.2.1
    have hM1 := IM_cl hM hp.2.2 (fun c x v => by unfold WTa at v; omega)
    refine wM (m_feed_t hB1.1 hM1.2.2.1 a1 a2 a3 a4 a5 c) (fun q hq => ⟨hp.1.trans hq.1.symm, good_2 hp.2.2 hq.2.2 (inv_mk okx (IB_rf ol.1 hB1 hq.2.2 (fun c x v => by unfold WMt at v; unfold isP; omega)) (IM_t hM1 hq.2.2 hq.2.1))⟩)
  · exact eq_w (b_feed_f hs bt ot.1 a1 a2 a3 a4 a5 c) (eq_w (m_feed_f at1 ot.1 a1 a2 a3 a4 a5 c) ⟨rfl, i0⟩)
theorem st_end (h : INV M) (x : Int) : wp (f_Band_end M 1 x) (fun p => wp (f_Model_end p.2 80 x) (fun q => p.1 = q.1 ∧ GOOD M q.2)) := by
  obtain ⟨n, ag, jo, pa, co, he, w, wc, wd, wt, tl, tb, fk, fp, m, lb, ch, rl, gl, gs, gr, hO, hB, hM⟩ := h
  have hO' := hO
  have hB' := hB
  have hM' := hM
  obtain ⟨op, ow, ot, ol, okr, og⟩ := hO'
  obtain ⟨hs, bp, bw, bt, bf, bl, br, bg, b64, b71, bpc⟩ := hB'
  obtain ⟨ap, aw, at1, af, al, ar, ag1⟩ := hM'
  have i0 : GOOD M (mp M 79 0 0) := good_1 f00 (inv_mk hO (IB_rf ol.1 hB f00 (fun _ _ v => wp0 v)) (IM_m hM f00))
  by_cases c : 0 ≤ x ∧ x ≤ (tl : Int)
  · obtain ⟨x, rfl⟩ : ∃ x' : Nat, x = (x' : Int) := ⟨x.toNat, by omega⟩
    have okx : IOx n ag jo pa co he w wc wd wt x tb fk fp m lb ch rl gl gs gr := ⟨op, ow, ⟨by have := ot.1; omega, ot.2⟩, ol, okr, og⟩
    have f1 : Fr WTa M (mp M 48 1 (x : Int)) := Fr_mp (Or.inl ⟨rfl, rfl⟩)
    have hB1 := IB_ta (tl' := x) (tb' := tb) ol.1 hB f1 ⟨by rw [mg_mp_s], fun j hj => by rw [mg_mp_n (by omega)]; exact bt.2 j (by omega)⟩
    have hM1 := IM_cl hM f1 (fun c x v => by unfold WTa at v; omega)
    have e1 := b_end hs bt (x : Int)
    rw [if_pos c] at e1
    have e2 := m_end hM1.2.2.1 (x : Int)
    rw [if_pos c] at e2
    have f2 : Fr WMt (mp M 48 1 (x : Int)) (mp (mp (mp M 48 1 (x : Int)) 79 0 0) 79 29 (x : Int)) := Fr_wr (Fr_mp (by unfold WMt; omega)) (by unfold WMt; omega)
    refine eq_w e1 (eq_w e2 ⟨rfl, good_2 f1 f2 (inv_mk okx (IB_rf ol.1 hB1 f2 (fun c x v => by unfold WMt at v; unfold isP; omega)) (IM_t hM1 f2 ⟨by rw [mg_mp_s], fun j hj => ?_⟩))⟩)
    rw [mg_mp_n (by omega), mg_mp_n (by omega)]; exact hM1.2.2.1.2 j (by omega)
  · have e1 := b_end hs bt x
    rw [if_neg c] at e1
    have e2 := m_end at1 x
    rw [if_neg c] at e2
    exact eq_w e1 (eq_w e2 ⟨rfl, i0⟩)
theorem st_where (h : INV M) (x d y : Int) : wp (f_Band_where M 1 x d y) (fun p => wp (f_Model_where p.2 80 x d y) (fun q => p.1 = q.1 ∧ GOOD M q.2)) := by
  obtain ⟨n, ag, jo, pa, co, he, w, wc, wd, wt, tl, tb, fk, fp, m, lb, ch, rl, gl, gs, gr, hO, hB, hM⟩ := h
  have hO' := hO
  have hB' := hB
  have hM' := hM
  obtain ⟨op, ow, ot, ol, okr, og⟩ := hO'
  obtain ⟨hs, bp, bw, bt, bf, bl, br, bg, b64, b71, bpc⟩ := hB'
  obtain ⟨ap, aw, at1, af, al, ar, ag1⟩ := hM'
  have i0 : GOOD M (mp M 79 0 0) := good_1 f00 (inv_mk hO (IB_rf ol.1 hB f00 (fun _ _ v => wp0 v)) (IM_m hM f00))
  rcases Classical.em (cWh w x d y) with c | c
  · have c' : (0 ≤ x ∧ x ≤ 29) ∧ (0 ≤ d ∧ d ≤ 999) ∧ (0 ≤ y ∧ y ≤ (w : Int)) := c
    refine wM (b_where_t hs bw ow c) (fun p hp => ?_)
    have hB1 := IB_lo ol.1 hB hp.2
    have hM1 := IM_cl hM hp.2 (fun c x v => by unfold WLo at v; omega)
    refine eq_w (m_where hB1.1 hM1.2.1 ow.1 x d y) ⟨by rw [if_pos c']; exact hp.1, good_2 hp.2 f00 (inv_mk hO (IB_rf ol.1 hB1 f00 (fun _ _ v => wp0 v)) (IM_m hM1 f00))⟩
  · have c' : ¬ ((0 ≤ x ∧ x ≤ 29) ∧ (0 ≤ d ∧ d ≤ 999) ∧ (0 ≤ y ∧ y ≤ (w : Int))) := c
    exact eq_w (b_where_f hs bw c) (eq_w (m_where hs aw ow.1 x d y) ⟨by rw [if_neg c'], i0⟩)
theorem st_copies (h : INV M) (t d y : Int) : wp (f_Band_copies M 1 t d y) (fun p => wp (f_Model_copies p.2 80 t d y) (fun q => p.1 = q.1 ∧ GOOD M q.2)) := by
  obtain ⟨n, ag, jo, pa, co, he, w, wc, wd, wt, tl, tb, fk, fp, m, lb, ch, rl, gl, gs, gr, hO, hB, hM⟩ := h
  have hO' := hO
  have hB' := hB
  have hM' := hM
  obtain ⟨op, ow, ot, ol, okr, og⟩ := hO'
  obtain ⟨hs, bp, bw, bt, bf, bl, br, bg, b64, b71, bpc⟩ := hB'
  obtain ⟨ap, aw, at1, af, al, ar, ag1⟩ := hM'
  have i0 : GOOD M (mp M 79 0 0) := good_1 f00 (inv_mk hO (IB_rf ol.1 hB f00 (fun _ _ v => wp0 v)) (IM_m hM f00))
  rcases Classical.em (cCp n w t d y) with c | c
  · skip
    refine wM (b_copies_t hs bp.1 bw ow c) (fun p hp => ?_)
    have hB1 := IB_lo ol.1 hB hp.2
    have hM1 := IM_cl hM hp.2 (fun c x v => by unfold WLo at v; omega)
    refine eq_w (m_copies_t hB1.1 hM1.1.1 hM1.2.1 ow.1 c) ⟨hp.1, good_2 hp.2 f00 (inv_mk hO (IB_rf ol.1 hB1 f00 (fun _ _ v => wp0 v)) (IM_m hM1 f00))⟩
  · exact eq_w (b_copies_f hs bp.1 bw c) (eq_w (m_copies_f ap.1 aw c) ⟨rfl, i0⟩)
theorem st_playable (h : INV M) (y : Int) : wp (f_Band_playable M 1 y) (fun p => wp (f_Model_playable p.2 80 y) (fun q => p.1 = q.1 ∧ GOOD M q.2)) := by
  obtain ⟨n, ag, jo, pa, co, he, w, wc, wd, wt, tl, tb, fk, fp, m, lb, ch, rl, gl, gs, gr, hO, hB, hM⟩ := h
  have hO' := hO
  have hB' := hB
  have hM' := hM
  obtain ⟨op, ow, ot, ol, okr, og⟩ := hO'
  obtain ⟨hs, bp, bw, bt, bf, bl, br, bg, b64, b71, bpc⟩ := hB'
  obtain ⟨ap, aw, at1, af, al, ar, ag1⟩ := hM'
  have i0 : GOOD M (mp M 79 0 0) := good_1 f00 (inv_mk hO (IB_rf ol.1 hB f00 (fun _ _ v => wp0 v)) (IM_m hM f00))
  refine wM (b_playable hs bp op bl ol y) (fun p hp => ?_)
  have hB1 := IB_co ol.1 hB hp.2
  have hM1 := IM_cl hM hp.2 (fun c x v => by unfold WCo at v; omega)
  refine eq_w (m_playable hB1.1 hM1.1 op hM1.2.2.2.2.1 ol y) ⟨hp.1, good_2 hp.2 f00 (inv_mk hO (IB_rf ol.1 hB1 f00 (fun _ _ v => wp0 v)) (IM_m hM1 f00))⟩
theorem st_lacks (h : INV M) (y : Int) : wp (f_Band_lacks M 1 y) (fun p => wp (f_Model_lacks p.2 80 y) (fun q => p.1 = q.1 ∧ GOOD M q.2)) := by
  obtain ⟨n, ag, jo, pa, co, he, w, wc, wd, wt, tl, tb, fk, fp, m, lb, ch, rl, gl, gs, gr, hO, hB, hM⟩ := h
  have hO' := hO
  have hB' := hB
  have hM' := hM
  obtain ⟨op, ow, ot, ol, okr, og⟩ := hO'
  obtain ⟨hs, bp, bw, bt, bf, bl, br, bg, b64, b71, bpc⟩ := hB'
  obtain ⟨ap, aw, at1, af, al, ar, ag1⟩ := hM'
  have i0 : GOOD M (mp M 79 0 0) := good_1 f00 (inv_mk hO (IB_rf ol.1 hB f00 (fun _ _ v => wp0 v)) (IM_m hM f00))
  refine wM (b_lacks hs bp op bl ol b64 y) (fun p hp => ?_)
  have hB1 := IB_lk ol.1 hB hp.2.1 hp.2.2
  have hM1 := IM_cl hM hp.2.1 (fun c x v => by unfold WLk at v; omega)
  refine eq_w (m_lacks hB1.1 hM1.1 op hM1.2.2.2.2.1 ol y) ⟨hp.1, good_2 hp.2.1 f00 (inv_mk hO (IB_rf ol.1 hB1 f00 (fun _ _ v => wp0 v)) (IM_m hM1 f00))⟩
theorem st_count (h : INV M) (x : Int) : wp (f_Band_count M 1 x) (fun p => wp (f_Model_count p.2 80 x) (fun q => p.1 = q.1 ∧ GOOD M q.2)) := by
  obtain ⟨n, ag, jo, pa, co, he, w, wc, wd, wt, tl, tb, fk, fp, m, lb, ch, rl, gl, gs, gr, hO, hB, hM⟩ := h
  have hO' := hO
  have hB' := hB
  have hM' := hM
  obtain ⟨op, ow, ot, ol, okr, og⟩ := hO'
  obtain ⟨hs, bp, bw, bt, bf, bl, br, bg, b64, b71, bpc⟩ := hB'
  obtain ⟨ap, aw, at1, af, al, ar, ag1⟩ := hM'
  have i0 : GOOD M (mp M 79 0 0) := good_1 f00 (inv_mk hO (IB_rf ol.1 hB f00 (fun _ _ v => wp0 v)) (IM_m hM f00))
  refine wM (b_count hs bp op bl ol bw.1 bg.1 x) (fun p hp => ?_)
  have hB1 := IB_co ol.1 hB hp.2
  have hM1 := IM_cl hM hp.2 (fun c x v => by unfold WCo at v; omega)
  refine eq_w (m_count hB1.1 hM1.1 op hM1.2.2.2.2.1 ol hM1.2.1.1 hM1.2.2.2.2.2.2.1 x) ⟨hp.1, good_2 hp.2 f00 (inv_mk hO (IB_rf ol.1 hB1 f00 (fun _ _ v => wp0 v)) (IM_m hM1 f00))⟩
theorem st_may (h : INV M) (x d : Int) : wp (f_Band_may M 1 x d) (fun p => wp (f_Model_may p.2 80 x d) (fun q => p.1 = q.1 ∧ GOOD M q.2)) := by
  obtain ⟨n, ag, jo, pa, co, he, w, wc, wd, wt, tl, tb, fk, fp, m, lb, ch, rl, gl, gs, gr, hO, hB, hM⟩ := h
  have hO' := hO
  have hB' := hB
  have hM' := hM
  obtain ⟨op, ow, ot, ol, okr, og⟩ := hO'
  obtain ⟨hs, bp, bw, bt, bf, bl, br, bg, b64, b71, bpc⟩ := hB'
  obtain ⟨ap, aw, at1, af, al, ar, ag1⟩ := hM'
  have i0 : GOOD M (mp M 79 0 0) := good_1 f00 (inv_mk hO (IB_rf ol.1 hB f00 (fun _ _ v => wp0 v)) (IM_m hM f00))
  by_cases c : (0 ≤ x ∧ x < (n : Int)) ∧ (0 ≤ d ∧ d ≤ 999)
  · obtain ⟨x, rfl⟩ : ∃ x' : Nat, x = (x' : Int) := ⟨x.toNat, by omega⟩
    refine wM (b_may_t hs bp op.1 bw ow br okr (by omega) c.2) (fun p hp => ?_)
    have hB1 := IB_may ol.1 hB hp.2
    have hM1 := IM_cl hM hp.2 (fun c x v => by unfold WMay at v; omega)
    refine wM (m_may_t hB1.1 hM1.1 op.1 hM1.2.1 ow.1 hM1.2.2.2.2.2.1 okr (by omega) c.2) (fun q hq => ⟨hp.1.trans hq.1.symm, good_2 hp.2 hq.2 (inv_mk hO (IB_rf ol.1 hB1 hq.2 (fun _ _ v => wp0 v)) (IM_m hM1 hq.2))⟩)
  · exact eq_w (b_may_f hs bp c) (eq_w (m_may_f ap c) ⟨rfl, i0⟩)
theorem st_sit (h : INV M) (y x z : Int) : wp (f_Band_sit M 1 y x z) (fun p => wp (f_Model_sit p.2 80 y x z) (fun q => p.1 = q.1 ∧ GOOD M q.2)) := by
  obtain ⟨n, ag, jo, pa, co, he, w, wc, wd, wt, tl, tb, fk, fp, m, lb, ch, rl, gl, gs, gr, hO, hB, hM⟩ := h
  have hO' := hO
  have hB' := hB
  have hM' := hM
  obtain ⟨op, ow, ot, ol, okr, og⟩ := hO'
  obtain ⟨hs, bp, bw, bt, bf, bl, br, bg, b64, b71, bpc⟩ := hB'
  obtain ⟨ap, aw, at1, af, al, ar, ag1⟩ := hM'
  have i0 : GOOD M (mp M 79 0 0) := good_1 f00 (inv_mk hO (IB_rf ol.1 hB f00 (fun _ _ v => wp0 v)) (IM_m hM f00))
  rcases Classical.em (cSit n m co lb ch y x z) with c | c
  · have okx : IOx n ag jo pa co he w wc wd wt tl tb fk fp m lb (up2 ch y.toNat x.toNat z) rl gl gs gr := ⟨op, ow, ot, OKl_sit ol (by rcases c.2 with e | e; omega; omega), okr, og⟩
    refine wM (b_sit_t hs bp op.1 bl ol c) (fun p hp => ?_)
    have f1 := Fr_sub hp.2.2 (fun c x v => WSi_2 v)
    have hB1 := IB_si ol.1 hB f1 hp.2.1
    have hM1 := IM_cl hM f1 (fun c x v => by unfold WSi2 at v; omega)
    refine wM (m_sit_t hB1.1 hM1.1 op.2.2.1 op.1 hM1.2.2.2.2.1 ol c) (fun q hq => ⟨hp.1.trans hq.1.symm, good_2 f1 hq.2.2 (inv_mk okx (IB_rf ol.1 hB1 hq.2.2 (fun c x v => by unfold WMs at v; unfold isP; omega)) (IM_s hM1 hq.2.2 hq.2.1))⟩)
  · exact eq_w (b_sit_f hs bp op.1 bl ol c) (eq_w (m_sit_f hs ap op.2.2.1 op.1 al ol c) ⟨rfl, i0⟩)
end STP

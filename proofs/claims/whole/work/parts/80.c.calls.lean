/-! the calls that change more -/
section STQ
variable {M : Mm}
theorem CBl_ld {np m : Nat} {lb : Nat → PcD} {ch : Nat → Nat → Int} {M' : Mm} (hok : OKl np m lb ch) (h : CBl m lb ch M) (f : Fr (WLd m) M M') (h6 : mg M' 6 1 = (m : Int)) : CBl m lb ch M' := by
  have hm := hok.1
  refine ⟨h6, fun k hk => ⟨PB_fr (h.2 k hk).1 f (fun c x v => by unfold WLd WTx WRd at v; omega), fun i hi => ?_⟩⟩
  rw [f.1 _ _ (fun v => by unfold WLd WTx WRd at v; omega)]
  exact (h.2 k hk).2 i hi
theorem st_load (h : INV M)  : wp (f_Band_load M 1) (fun p => wp (f_Model_load p.2 80) (fun q => p.1 = q.1 ∧ GOOD M q.2)) := by
  obtain ⟨n, ag, jo, pa, co, he, w, wc, wd, wt, tl, tb, fk, fp, m, lb, ch, rl, gl, gs, gr, hO, hB, hM⟩ := h
  have hO' := hO
  have hB' := hB
  have hM' := hM
  obtain ⟨op, ow, ot, ol, okr, og⟩ := hO'
  obtain ⟨hs, bp, bw, bt, bf, bl, br, bg, b64, b71, bpc⟩ := hB'
  obtain ⟨ap, aw, at1, af, al, ar, ag1⟩ := hM'
  have i0 : GOOD M (mp M 79 0 0) := good_1 f00 (inv_mk hO (IB_rf ol.1 hB f00 (fun _ _ v => wp0 v)) (IM_m hM f00))
  refine wM (b_load ot hs bt bl ol) (fun p hp => ?_)
  obtain ⟨f1, z1, hr1⟩ := hp
  have F1 := Fr_sub f1 (fun c x v => WLd_2 v)
  have hM1 := IM_cl hM F1 (fun c x v => by unfold WLd2 at v; omega)
  have s1 : Sh p.2 := Sh_fr hs F1 (fun c x v => by unfold WLd2 at v; rcases v with v | v; exact v.2.2; unfold isP; omega)
  refine wM (m_load ot s1 hM1.2.2.1 hM1.2.2.2.2.1 ol) (fun q hq => ?_)
  obtain ⟨f2, z2, hr2⟩ := hq
  have hv : ∀ c x, WLM m c x → 79 ≤ c ∧ ¬ isP c x := fun c x v => ⟨by unfold WLM WTm at v; omega, WLM_p v⟩
  have t1 : CBt 0 tb p.2 := ⟨z1, fun j hj => absurd hj (Nat.not_lt_zero _)⟩
  have t2 : CMt 0 tb q.2 := ⟨z2, fun j hj => absurd hj (Nat.not_lt_zero _)⟩
  have ot2 : OKt 0 tb := ⟨by omega, ot.2⟩
  cases hτ : ldT tl tb m lb with
  | inl y =>
    rw [hτ] at hr1 hr2
    obtain ⟨a1, a2, a3, a4, a5⟩ := hr1
    obtain ⟨c1, c2, c3, c4⟩ := hr2
    exact ⟨a1.trans c1.symm, good_2 F1 f2 (inv_mk ⟨op, ow, ot2, a3, okr, og⟩ (IB_rf a3.1 (IB_ld ol.1 hB F1 t1 a2 ⟨a4, a5⟩) f2 hv) (IM_l hM1 f2 t2 c2 ⟨c3, c4⟩))⟩
  | inr e =>
    rw [hτ] at hr1 hr2
    obtain ⟨a1, a2, a4, a5⟩ := hr1
    obtain ⟨c1, c2, c3, c4⟩ := hr2
    exact ⟨a1.trans c1.symm, good_2 F1 f2 (inv_mk ⟨op, ow, ot2, ol, okr, og⟩ (IB_rf ol.1 (IB_ld ol.1 hB F1 t1 (CBl_ld ol bl f1 a2) ⟨a4, a5⟩) f2 hv) (IM_l hM1 f2 t2 c2 ⟨c3, c4⟩))⟩
theorem st_rule (h : INV M)  : wp (f_Band_rule M 1) (fun p => wp (f_Model_rule p.2 80) (fun q => p.1 = q.1 ∧ GOOD M q.2)) := by
  obtain ⟨n, ag, jo, pa, co, he, w, wc, wd, wt, tl, tb, fk, fp, m, lb, ch, rl, gl, gs, gr, hO, hB, hM⟩ := h
  have hO' := hO
  have hB' := hB
  have hM' := hM
  obtain ⟨op, ow, ot, ol, okr, og⟩ := hO'
  obtain ⟨hs, bp, bw, bt, bf, bl, br, bg, b64, b71, bpc⟩ := hB'
  obtain ⟨ap, aw, at1, af, al, ar, ag1⟩ := hM'
  have i0 : GOOD M (mp M 79 0 0) := good_1 f00 (inv_mk hO (IB_rf ol.1 hB f00 (fun _ _ v => wp0 v)) (IM_m hM f00))
  refine wM (b_rule ot hs bt br) (fun p hp => ?_)
  obtain ⟨f1, z1, hr1⟩ := hp
  have hM1 := IM_cl hM f1 (fun c x v => by unfold WRl at v; omega)
  have s1 : Sh p.2 := Sh_fr hs f1 (fun c x v => by unfold WRl at v; unfold isP; omega)
  refine wM (m_rule ot s1 hM1.2.2.1 hM1.2.2.2.2.2.1) (fun q hq => ?_)
  obtain ⟨f2, z2, hr2⟩ := hq
  have hv : ∀ c x, WRm c x → 79 ≤ c ∧ ¬ isP c x := fun c x v => by unfold WRm at v; unfold isP; omega
  have t1 : CBt 0 tb p.2 := ⟨z1, fun j hj => absurd hj (Nat.not_lt_zero _)⟩
  have t2 : CMt 0 tb q.2 := ⟨z2, fun j hj => absurd hj (Nat.not_lt_zero _)⟩
  have ot2 : OKt 0 tb := ⟨by omega, ot.2⟩
  cases hτ : rlT tl tb with
  | inl y =>
    rw [hτ] at hr1 hr2
    obtain ⟨a1, a2, a4, a5⟩ := hr1
    obtain ⟨c1, c2, c3, c4⟩ := hr2
    exact ⟨a1.trans c1.symm, good_2 f1 f2 (inv_mk ⟨op, ow, ot2, ol, rl_ok ot hτ, og⟩ (IB_rf ol.1 (IB_rl ol.1 hB f1 t1 a2 ⟨a4, a5⟩) f2 hv) (IM_r hM1 f2 t2 c2 ⟨c3, c4⟩))⟩
  | inr e =>
    rw [hτ] at hr1 hr2
    obtain ⟨a1, a2, a4, a5⟩ := hr1
    obtain ⟨c1, c2, c3, c4⟩ := hr2
    exact ⟨a1.trans c1.symm, good_2 f1 f2 (inv_mk ⟨op, ow, ot2, ol, okr, og⟩ (IB_rf ol.1 (IB_rl ol.1 hB f1 t1 a2 ⟨a4, a5⟩) f2 hv) (IM_r hM1 f2 t2 c2 ⟨c3, c4⟩))⟩
theorem CMl_cg {m : Nat} {lb : Nat → PcD} {ch ch' : Nat → Nat → Int} (h : CMl m lb ch M) (e : ∀ k, k < m → ∀ i, i < pPt (lb k) → ch k i = ch' k i) : CMl m lb ch' M := ⟨h.1, fun k hk => ⟨(h.2 k hk).1, fun i hi => by rw [← e k hk i hi]; exact (h.2 k hk).2 i hi⟩⟩
theorem chN_ok {n : Nat} {pa : Nat → Int} {co : Nat → Nat → Int} {he : Nat → Bool} {d : PcD} {c : Nat → Int} {an : Bool} {a : Nat → Nat} (op : OKp n pa co he) (h : Lgt an co he d c a) {i : Nat} (hi : i < pPt d) : -1 ≤ chN a i ∧ chN a i < (n : Int) := by
  have h1 := (h.2.1 i hi).2
  unfold okp at h1
  rw [Bool.and_eq_true] at h1
  have h2 := h1.1
  unfold mbP at h2
  unfold chN
  by_cases c : a i = 14
  · rw [if_pos c]; omega
  · rw [if_neg c]
    rw [if_neg c] at h2
    unfold abl at h2
    rw [Bool.and_eq_true] at h2
    have : a i < n := by
      rcases Nat.lt_or_ge (a i) n with h | h
      · exact h
      · rw [op.2.2.2 _ h] at h2; cases h2.1
    omega
theorem OKl_seat {n m k : Nat} {lb : Nat → PcD} {ch : Nat → Nat → Int} (ol : OKl n m lb ch) {f : Nat → Int} (hf : ∀ i, i < pPt (lb k) → -1 ≤ f i ∧ f i < (n : Int)) : OKl n m lb (chU ch k f) := ⟨ol.1, fun k' hk' => ⟨(ol.2 k' hk').1, fun i hi => by
  unfold chU
  by_cases e : k' = k
  · rw [if_pos e]; rw [e] at hi; exact hf i hi
  · rw [if_neg e]; exact (ol.2 k' hk').2 i hi⟩⟩
theorem st_seat (h : INV M) (y : Int) : wp (f_Band_seat M 1 y) (fun p => wp (f_Model_seat p.2 80 y) (fun q => p.1 = q.1 ∧ GOOD M q.2)) := by
  obtain ⟨n, ag, jo, pa, co, he, w, wc, wd, wt, tl, tb, fk, fp, m, lb, ch, rl, gl, gs, gr, hO, hB, hM⟩ := h
  have hO' := hO
  have hB' := hB
  have hM' := hM
  obtain ⟨op, ow, ot, ol, okr, og⟩ := hO'
  obtain ⟨hs, bp, bw, bt, bf, bl, br, bg, b64, b71, bpc⟩ := hB'
  obtain ⟨ap, aw, at1, af, al, ar, ag1⟩ := hM'
  have i0 : GOOD M (mp M 79 0 0) := good_1 f00 (inv_mk hO (IB_rf ol.1 hB f00 (fun _ _ v => wp0 v)) (IM_m hM f00))
  by_cases c : (0 ≤ y ∧ y < (m : Int)) ∧ lk co he (lb y.toNat) = 0
  · obtain ⟨k, rfl⟩ : ∃ k : Nat, y = (k : Int) := ⟨y.toNat, by omega⟩
    rw [Int.toNat_natCast] at c
    have hk : k < m := by omega
    refine wM (b_seat_t hs bp op bl ol b71 hk c.2) (fun p hp => ?_)
    obtain ⟨a, ha, hmt, e1, kl, f1, k71⟩ := hp
    have F1 := Fr_sub f1 (fun c x v => WBs_2 v)
    have hM1 := IM_cl hM F1 (fun c x v => by unfold WBs2 at v; omega)
    have hB1 := IB_bs ol.1 hB F1 kl k71
    have okx : IOx n ag jo pa co he w wc wd wt tl tb fk fp m lb (chU ch k (chN a)) rl gl gs gr := ⟨op, ow, ot, OKl_seat ol (fun i hi => chN_ok op ha hi), okr, og⟩
    have hx := m_seatX_t hB1.1 hM1.1 op hM1.2.2.2.2.1 ol hk c.2 hmt false
    rw [show anI false = 0 from rfl, ← m_seat_eq] at hx
    refine wM hx (fun q hq => ?_)
    obtain ⟨g, g15, hg, e2, kl2, f2⟩ := hq
    have same := seat_same op (ol.2 k hk).1 ha g15 hg
    have eN : ∀ i, i < pPt (lb k) → chN a i = chN g i := fun i hi => by unfold chN; rw [same i hi]
    refine ⟨?_, good_2 F1 f2 (inv_mk okx (IB_rf ol.1 hB1 f2 (fun c x v => by unfold WMz at v; unfold isP; omega)) (IM_z hM1 f2 (CMl_cg kl2 (fun k' hk' i hi => ?_))))⟩
    · rw [e1, e2]
      exact sCnt_cg _ eN
    · unfold chU
      by_cases e : k' = k
      · rw [if_pos e, if_pos e]; rw [e] at hi; exact (eN i hi).symm
      · rw [if_neg e, if_neg e]
  · refine wM (b_seat_f hs bp op bl ol c) (fun p hp => ?_)
    have hB1 := IB_co ol.1 hB hp.2
    have hM1 := IM_cl hM hp.2 (fun c x v => by unfold WCo at v; omega)
    rw [m_seat_eq]
    exact eq_w (m_seatX_f hB1.1 hM1.1 op hM1.2.2.2.2.1 ol c _) ⟨hp.1, good_2 hp.2 f00 (inv_mk hO (IB_rf ol.1 hB1 f00 (fun _ _ v => wp0 v)) (IM_m hM1 f00))⟩
theorem st_again (h : INV M) (y : Int) : wp (f_Band_again M 1 y) (fun p => wp (f_Model_again p.2 80 y) (fun q => p.1 = q.1 ∧ GOOD M q.2)) := by
  obtain ⟨n, ag, jo, pa, co, he, w, wc, wd, wt, tl, tb, fk, fp, m, lb, ch, rl, gl, gs, gr, hO, hB, hM⟩ := h
  have hO' := hO
  have hB' := hB
  have hM' := hM
  obtain ⟨op, ow, ot, ol, okr, og⟩ := hO'
  obtain ⟨hs, bp, bw, bt, bf, bl, br, bg, b64, b71, bpc⟩ := hB'
  obtain ⟨ap, aw, at1, af, al, ar, ag1⟩ := hM'
  have i0 : GOOD M (mp M 79 0 0) := good_1 f00 (inv_mk hO (IB_rf ol.1 hB f00 (fun _ _ v => wp0 v)) (IM_m hM f00))
  by_cases c : (0 ≤ y ∧ y < (m : Int)) ∧ lk co he (lb y.toNat) = 0
  · obtain ⟨k, rfl⟩ : ∃ k : Nat, y = (k : Int) := ⟨y.toNat, by omega⟩
    rw [Int.toNat_natCast] at c
    have hk : k < m := by omega
    refine wM (b_again_t hs bp op bl ol b71 hk c.2) (fun p hp => ?_)
    obtain ⟨a, ha, hmt, e1, kl, f1, k71⟩ := hp
    have F1 := Fr_sub f1 (fun c x v => WBs_2 v)
    have hM1 := IM_cl hM F1 (fun c x v => by unfold WBs2 at v; omega)
    have hB1 := IB_bs ol.1 hB F1 kl k71
    have okx : IOx n ag jo pa co he w wc wd wt tl tb fk fp m lb (chU ch k (chN a)) rl gl gs gr := ⟨op, ow, ot, OKl_seat ol (fun i hi => chN_ok op ha hi), okr, og⟩
    have hx := m_seatX_t hB1.1 hM1.1 op hM1.2.2.2.2.1 ol hk c.2 hmt true
    rw [show anI true = 1 from rfl, ← m_again_eq] at hx
    refine wM hx (fun q hq => ?_)
    obtain ⟨g, g15, hg, e2, kl2, f2⟩ := hq
    have same := seat_same op (ol.2 k hk).1 ha g15 hg
    have eN : ∀ i, i < pPt (lb k) → chN a i = chN g i := fun i hi => by unfold chN; rw [same i hi]
    refine ⟨?_, good_2 F1 f2 (inv_mk okx (IB_rf ol.1 hB1 f2 (fun c x v => by unfold WMz at v; unfold isP; omega)) (IM_z hM1 f2 (CMl_cg kl2 (fun k' hk' i hi => ?_))))⟩
    · rw [e1, e2]
      exact sum_cg _ (fun i hi => by rw [same i hi])
    · unfold chU
      by_cases e : k' = k
      · rw [if_pos e, if_pos e]; rw [e] at hi; exact (eN i hi).symm
      · rw [if_neg e, if_neg e]
  · refine wM (b_again_f hs bp op bl ol c) (fun p hp => ?_)
    have hB1 := IB_co ol.1 hB hp.2
    have hM1 := IM_cl hM hp.2 (fun c x v => by unfold WCo at v; omega)
    rw [m_again_eq]
    exact eq_w (m_seatX_f hB1.1 hM1.1 op hM1.2.2.2.2.1 ol c _) ⟨hp.1, good_2 hp.2 f00 (inv_mk hO (IB_rf ol.1 hB1 f00 (fun _ _ v => wp0 v)) (IM_m hM1 f00))⟩
theorem st_programme (h : INV M) (x y : Int) : wp (f_Band_programme M 1 x y) (fun p => wp (f_Model_programme p.2 80 x y) (fun q => p.1 = q.1 ∧ GOOD M q.2)) := by
  obtain ⟨n, ag, jo, pa, co, he, w, wc, wd, wt, tl, tb, fk, fp, m, lb, ch, rl, gl, gs, gr, hO, hB, hM⟩ := h
  have hO' := hO
  have hB' := hB
  have hM' := hM
  obtain ⟨op, ow, ot, ol, okr, og⟩ := hO'
  obtain ⟨hs, bp, bw, bt, bf, bl, br, bg, b64, b71, bpc⟩ := hB'
  obtain ⟨ap, aw, at1, af, al, ar, ag1⟩ := hM'
  have i0 : GOOD M (mp M 79 0 0) := good_1 f00 (inv_mk hO (IB_rf ol.1 hB f00 (fun _ _ v => wp0 v)) (IM_m hM f00))
  by_cases c : (0 ≤ x ∧ x ≤ 600) ∧ (0 ≤ y ∧ y ≤ 18)
  · refine wM (b_programme_t hs bp op bl ol bpc c.1 c.2) (fun p hp => ?_)
    obtain ⟨len, a, h1, k1, k2, k3, fG, kbc⟩ := hp
    have f1 : Fr WPg M (p.2.1, M.2) := ⟨fun c k hw => fG.1 c k hw, fun _ => rfl, rfl, rfl⟩
    have vh : ∀ c x, WPg c x → (c = 61 ∧ x = 3) ∨ c = 62 ∨ c = 63 ∨ (c = 72 ∧ (x = 1 ∨ x = 2 ∨ x = 7 ∨ x = 8)) ∨ (73 ≤ c ∧ c ≤ 78) ∨ 109 ≤ c := fun c x v => v
    have hl10 : len ≤ m := VR_len h1.2.1
    have hB1 : IBx n ag jo pa co he w wc wd wt tl tb fk fp m lb ch rl len (sumN (stI (fun k => pKe (lb k)) a) len) a p.2 := ⟨fG.2.1, CBp_fr (M' := (p.2.1, M.2)) bp f1 (fun c x v => by have := vh c x v; omega), CBw_fr (M' := (p.2.1, M.2)) bw f1 (fun c x v => by have := vh c x v; omega), CBt_fr (M' := (p.2.1, M.2)) bt f1 (fun c x v => by have := vh c x v; omega), CBf_fr (M' := (p.2.1, M.2)) bf f1 (fun c x v => by have := vh c x v; omega), CBl_fr (M' := (p.2.1, M.2)) (n := 0) ol.1 bl f1 (fun c x v => by have := vh c x v; omega), CBr_fr (M' := (p.2.1, M.2)) br f1 (fun c x v => by have := vh c x v; omega), ⟨k1, k2, k3⟩, (f1.1 64 0 (fun v => by have := vh _ _ v; omega)).trans b64, Z71_fr (M' := (p.2.1, M.2)) b71 f1 (fun c x v => by have := vh c x v; omega), kbc⟩
    have hM1 : IMx n ag jo pa co he w wc wd wt tl tb fk fp m lb ch rl gl gs gr p.2 := ⟨CMp_fr (M' := (p.2.1, M.2)) ap f1 (fun c x v => by have := vh c x v; omega), CMw_fr (M' := (p.2.1, M.2)) aw f1 (fun c x v => by have := vh c x v; omega), CMt_fr (M' := (p.2.1, M.2)) at1 f1 (fun c x v => by have := vh c x v; omega), CMf_fr (M' := (p.2.1, M.2)) af f1 (fun c x v => by have := vh c x v; omega), CMl_fr (M' := (p.2.1, M.2)) al f1 (fun c x v => by have := vh c x v; omega), CMr_fr (M' := (p.2.1, M.2)) ar f1 (fun c x v => by have := vh c x v; omega), CMg_fr (M' := (p.2.1, M.2)) ag1 f1 (fun c x v => by have := vh c x v; omega)⟩
    refine wM (m_programme_t hB1.1 hM1.1 op hM1.2.2.2.2.1 ol c.1 c.2) (fun q hq => ?_)
    obtain ⟨len2, g, h2, j1, j2, j3, f2⟩ := hq
    obtain ⟨e1, e2, e3, e4⟩ := plan_same ol h1 h2
    have hm10 := ol.1
    have okx : IOx n ag jo pa co he w wc wd wt tl tb fk fp m lb ch rl len (sumN (stI (fun k => pKe (lb k)) a) len) a := ⟨op, ow, ot, ol, okr, by omega⟩
    refine ⟨e1, inv_mk okx (IB_rf ol.1 hB1 f2 (fun c x v => by unfold WMg at v; unfold isP; omega)) (IM_g hM1 f2 ⟨by rw [j1, e2], by rw [j2, e3], fun i hi => by rw [j3 i (by omega), e4 i hi]⟩), ?_, ?_⟩
    · rw [f2.2.2.1]; exact fG.2.2.1.2
    · rw [f2.2.2.2]; exact fG.2.2.2
  · exact eq_w (b_programme_f c) (eq_w (m_programme_f c) ⟨rfl, i0⟩)
end STQ

/-! all that holds between two calls -/
def CBg (gl : Nat) (gs : Int) (gr : Nat → Nat) (M : Mm) : Prop := mg M 72 1 = (gl : Int) ∧ mg M 72 2 = gs ∧ ∀ i, i < gl → mg M 73 i = (gr i : Int)
def CMg (gl : Nat) (gs : Int) (gr : Nat → Nat) (M : Mm) : Prop := mg M 79 18 = (gl : Int) ∧ mg M 79 19 = gs ∧ ∀ i, i < gl → mg M 95 i = (gr i : Int)
def IBx (n : Nat) (ag jo pa : Nat → Int) (co : Nat → Nat → Int) (he : Nat → Bool) (w : Nat) (wc wd wt : Nat → Int) (tl : Nat) (tb : Nat → Int) (fk fp : Int) (m : Nat) (lb : Nat → PcD) (ch : Nat → Nat → Int) (rl : List Int) (gl : Nat) (gs : Int) (gr : Nat → Nat) (M : Mm) : Prop := Sh M ∧ CBp n ag jo pa co he M ∧ CBw w wc wd wt M ∧ CBt tl tb M ∧ CBf fk fp M ∧ CBl m lb ch M ∧ CBr rl M ∧ CBg gl gs gr M ∧ mg M 64 0 = 0 ∧ Z71 M ∧ PBc M
def IMx (n : Nat) (ag jo pa : Nat → Int) (co : Nat → Nat → Int) (he : Nat → Bool) (w : Nat) (wc wd wt : Nat → Int) (tl : Nat) (tb : Nat → Int) (fk fp : Int) (m : Nat) (lb : Nat → PcD) (ch : Nat → Nat → Int) (rl : List Int) (gl : Nat) (gs : Int) (gr : Nat → Nat) (M : Mm) : Prop := CMp n ag jo pa co he M ∧ CMw w wc wd wt M ∧ CMt tl tb M ∧ CMf fk fp M ∧ CMl m lb ch M ∧ CMr rl M ∧ CMg gl gs gr M
def IOx (n : Nat) (ag jo pa : Nat → Int) (co : Nat → Nat → Int) (he : Nat → Bool) (w : Nat) (wc wd wt : Nat → Int) (tl : Nat) (tb : Nat → Int) (fk fp : Int) (m : Nat) (lb : Nat → PcD) (ch : Nat → Nat → Int) (rl : List Int) (gl : Nat) (gs : Int) (gr : Nat → Nat) : Prop := OKp n pa co he ∧ OKw w wc ∧ OKt tl tb ∧ OKl n m lb ch ∧ OKr rl ∧ gl ≤ 10
def INV (M : Mm) : Prop := ∃ n ag jo pa co he w wc wd wt tl tb fk fp m lb ch rl gl gs gr, IOx n ag jo pa co he w wc wd wt tl tb fk fp m lb ch rl gl gs gr ∧ IBx n ag jo pa co he w wc wd wt tl tb fk fp m lb ch rl gl gs gr M ∧ IMx n ag jo pa co he w wc wd wt tl tb fk fp m lb ch rl gl gs gr M
section IVX
variable {n : Nat} {ag jo pa : Nat → Int} {co : Nat → Nat → Int} {he : Nat → Bool} {w : Nat} {wc wd wt : Nat → Int} {tl : Nat} {tb : Nat → Int} {fk fp : Int} {m : Nat} {lb : Nat → PcD} {ch : Nat → Nat → Int} {rl : List Int} {gl : Nat} {gs : Int} {gr : Nat → Nat} {V : Nat → Nat → Prop} {M M' : Mm}
theorem CBf_fr (h : CBf fk fp M) (f : Fr V M M') (hw : ∀ c x, V c x → ¬ (c = 48 ∧ (x = 8 ∨ x = 9))) : CBf fk fp M' := ⟨(f.1 _ _ (fun v => hw _ _ v (by omega))).trans h.1, (f.1 _ _ (fun v => hw _ _ v (by omega))).trans h.2⟩
theorem CMf_fr (h : CMf fk fp M) (f : Fr V M M') (hw : ∀ c x, V c x → ¬ (c = 79 ∧ (x = 35 ∨ x = 36))) : CMf fk fp M' := ⟨(f.1 _ _ (fun v => hw _ _ v (by omega))).trans h.1, (f.1 _ _ (fun v => hw _ _ v (by omega))).trans h.2⟩
theorem CBg_fr (h : CBg gl gs gr M) (f : Fr V M M') (hw : ∀ c x, V c x → ¬ (c = 72 ∧ (x = 1 ∨ x = 2)) ∧ c ≠ 73) : CBg gl gs gr M' := ⟨(f.1 _ _ (fun v => (hw _ _ v).1 (by omega))).trans h.1, (f.1 _ _ (fun v => (hw _ _ v).1 (by omega))).trans h.2.1, fun i hi => (f.1 _ _ (fun v => (hw _ _ v).2 rfl)).trans (h.2.2 i hi)⟩
theorem CMg_fr (h : CMg gl gs gr M) (f : Fr V M M') (hw : ∀ c x, V c x → ¬ (c = 79 ∧ (x = 18 ∨ x = 19)) ∧ c ≠ 95) : CMg gl gs gr M' := ⟨(f.1 _ _ (fun v => (hw _ _ v).1 (by omega))).trans h.1, (f.1 _ _ (fun v => (hw _ _ v).1 (by omega))).trans h.2.1, fun i hi => (f.1 _ _ (fun v => (hw _ _ v).2 rfl)).trans (h.2.2 i hi)⟩
theorem Z71_fr (h : Z71 M) (f : Fr V M M') (hw : ∀ c x, V c x → c ≠ 71) : Z71 M' := fun c hc => by rw [f.1 71 c (fun v => hw _ _ v rfl)]; exact h c hc
theorem PBc_fr (h : PBc M) (f : Fr V M M') (hw : ∀ c x, V c x → ¬ (c = 72 ∧ x = 8)) : PBc M' := by
  obtain ⟨bc, h1, h2, h3⟩ := h
  exact ⟨bc, (f.1 72 8 (fun v => hw _ _ v ⟨rfl, rfl⟩)).trans h1, h2, by rw [f.2.2.1]; exact h3⟩
def WSi2 (c _x : Nat) : Prop := 11 ≤ c ∧ c ≤ 47 ∧ c % 4 = 3
def WBs2 (c x : Nat) : Prop := (c = 61 ∧ x = 3) ∨ c = 62 ∨ c = 63 ∨ (c = 65 ∧ x = 6) ∨ (66 ≤ c ∧ c ≤ 71) ∨ (11 ≤ c ∧ c ≤ 47 ∧ c % 4 = 3)
theorem WSi_2 {c x : Nat} (h : WSi c x) : WSi2 c x := by
  obtain ⟨k, h1, h2⟩ := h
  unfold WSi2; omega
theorem WBs_2 {c x : Nat} (h : WBs c x) : WBs2 c x := by
  unfold WBs at h
  unfold WBs2
  rcases h with h | h | h | h | h | ⟨k, h1, h2⟩
  · omega
  · omega
  · omega
  · omega
  · omega
  · omega
theorem IB_pl {n' : Nat} {ag' : Nat → Int} {jo' : Nat → Int} {pa' : Nat → Int} {co' : Nat → Nat → Int} {he' : Nat → Bool} (hm10 : m ≤ 10) (h : IBx n ag jo pa co he w wc wd wt tl tb fk fp m lb ch rl gl gs gr M) (f : Fr WPl M M') (kp : CBp n' ag' jo' pa' co' he' M') : IBx n' ag' jo' pa' co' he' w wc wd wt tl tb fk fp m lb ch rl gl gs gr M' := by
  obtain ⟨hs, bp, bw, bt, bf, bl, br, bg, b64, b71, bpc⟩ := h
  exact ⟨Sh_fr hs f (fun c x v => by unfold WPl at v; unfold isP; omega), kp, CBw_fr bw f (fun c x v => by unfold WPl at v; omega), CBt_fr bt f (fun c x v => by unfold WPl at v; omega), CBf_fr bf f (fun c x v => by unfold WPl at v; omega), CBl_fr (n := 0) hm10 bl f (fun c x v => by unfold WPl at v; omega), CBr_fr br f (fun c x v => by unfold WPl at v; omega), CBg_fr bg f (fun c x v => by unfold WPl at v; omega), (f.1 64 0 (fun v => by unfold WPl at v; omega)).trans b64, Z71_fr b71 f (fun c x v => by unfold WPl at v; omega), PBc_fr bpc f (fun c x v => by unfold WPl at v; omega)⟩
theorem IB_no {w' : Nat} {wc' : Nat → Int} {wd' : Nat → Int} {wt' : Nat → Int} (hm10 : m ≤ 10) (h : IBx n ag jo pa co he w wc wd wt tl tb fk fp m lb ch rl gl gs gr M) (f : Fr WNo M M') (kw : CBw w' wc' wd' wt' M') : IBx n ag jo pa co he w' wc' wd' wt' tl tb fk fp m lb ch rl gl gs gr M' := by
  obtain ⟨hs, bp, bw, bt, bf, bl, br, bg, b64, b71, bpc⟩ := h
  exact ⟨Sh_fr hs f (fun c x v => by unfold WNo at v; unfold isP; omega), CBp_fr bp f (fun c x v => by unfold WNo at v; omega), kw, CBt_fr bt f (fun c x v => by unfold WNo at v; omega), CBf_fr bf f (fun c x v => by unfold WNo at v; omega), CBl_fr (n := 0) hm10 bl f (fun c x v => by unfold WNo at v; omega), CBr_fr br f (fun c x v => by unfold WNo at v; omega), CBg_fr bg f (fun c x v => by unfold WNo at v; omega), (f.1 64 0 (fun v => by unfold WNo at v; omega)).trans b64, Z71_fr b71 f (fun c x v => by unfold WNo at v; omega), PBc_fr bpc f (fun c x v => by unfold WNo at v; omega)⟩
theorem IB_ta {tl' : Nat} {tb' : Nat → Int} (hm10 : m ≤ 10) (h : IBx n ag jo pa co he w wc wd wt tl tb fk fp m lb ch rl gl gs gr M) (f : Fr WTa M M') (kt : CBt tl' tb' M') : IBx n ag jo pa co he w wc wd wt tl' tb' fk fp m lb ch rl gl gs gr M' := by
  obtain ⟨hs, bp, bw, bt, bf, bl, br, bg, b64, b71, bpc⟩ := h
  exact ⟨Sh_fr hs f (fun c x v => by unfold WTa at v; unfold isP; omega), CBp_fr bp f (fun c x v => by unfold WTa at v; omega), CBw_fr bw f (fun c x v => by unfold WTa at v; omega), kt, CBf_fr bf f (fun c x v => by unfold WTa at v; omega), CBl_fr (n := 0) hm10 bl f (fun c x v => by unfold WTa at v; omega), CBr_fr br f (fun c x v => by unfold WTa at v; omega), CBg_fr bg f (fun c x v => by unfold WTa at v; omega), (f.1 64 0 (fun v => by unfold WTa at v; omega)).trans b64, Z71_fr b71 f (fun c x v => by unfold WTa at v; omega), PBc_fr bpc f (fun c x v => by unfold WTa at v; omega)⟩
theorem IB_lo (hm10 : m ≤ 10) (h : IBx n ag jo pa co he w wc wd wt tl tb fk fp m lb ch rl gl gs gr M) (f : Fr WLo M M')  : IBx n ag jo pa co he w wc wd wt tl tb fk fp m lb ch rl gl gs gr M' := by
  obtain ⟨hs, bp, bw, bt, bf, bl, br, bg, b64, b71, bpc⟩ := h
  exact ⟨Sh_fr hs f (fun c x v => by unfold WLo at v; unfold isP; omega), CBp_fr bp f (fun c x v => by unfold WLo at v; omega), CBw_fr bw f (fun c x v => by unfold WLo at v; omega), CBt_fr bt f (fun c x v => by unfold WLo at v; omega), CBf_fr bf f (fun c x v => by unfold WLo at v; omega), CBl_fr (n := 0) hm10 bl f (fun c x v => by unfold WLo at v; omega), CBr_fr br f (fun c x v => by unfold WLo at v; omega), CBg_fr bg f (fun c x v => by unfold WLo at v; omega), (f.1 64 0 (fun v => by unfold WLo at v; omega)).trans b64, Z71_fr b71 f (fun c x v => by unfold WLo at v; omega), PBc_fr bpc f (fun c x v => by unfold WLo at v; omega)⟩
theorem IB_co (hm10 : m ≤ 10) (h : IBx n ag jo pa co he w wc wd wt tl tb fk fp m lb ch rl gl gs gr M) (f : Fr WCo M M')  : IBx n ag jo pa co he w wc wd wt tl tb fk fp m lb ch rl gl gs gr M' := by
  obtain ⟨hs, bp, bw, bt, bf, bl, br, bg, b64, b71, bpc⟩ := h
  exact ⟨Sh_fr hs f (fun c x v => by unfold WCo at v; unfold isP; omega), CBp_fr bp f (fun c x v => by unfold WCo at v; omega), CBw_fr bw f (fun c x v => by unfold WCo at v; omega), CBt_fr bt f (fun c x v => by unfold WCo at v; omega), CBf_fr bf f (fun c x v => by unfold WCo at v; omega), CBl_fr (n := 0) hm10 bl f (fun c x v => by unfold WCo at v; omega), CBr_fr br f (fun c x v => by unfold WCo at v; omega), CBg_fr bg f (fun c x v => by unfold WCo at v; omega), (f.1 64 0 (fun v => by unfold WCo at v; omega)).trans b64, Z71_fr b71 f (fun c x v => by unfold WCo at v; omega), PBc_fr bpc f (fun c x v => by unfold WCo at v; omega)⟩
theorem IB_lk (hm10 : m ≤ 10) (h : IBx n ag jo pa co he w wc wd wt tl tb fk fp m lb ch rl gl gs gr M) (f : Fr WLk M M')  (k64 : mg M' 64 0 = 0) : IBx n ag jo pa co he w wc wd wt tl tb fk fp m lb ch rl gl gs gr M' := by
  obtain ⟨hs, bp, bw, bt, bf, bl, br, bg, b64, b71, bpc⟩ := h
  exact ⟨Sh_fr hs f (fun c x v => by unfold WLk at v; unfold isP; omega), CBp_fr bp f (fun c x v => by unfold WLk at v; omega), CBw_fr bw f (fun c x v => by unfold WLk at v; omega), CBt_fr bt f (fun c x v => by unfold WLk at v; omega), CBf_fr bf f (fun c x v => by unfold WLk at v; omega), CBl_fr (n := 0) hm10 bl f (fun c x v => by unfold WLk at v; omega), CBr_fr br f (fun c x v => by unfold WLk at v; omega), CBg_fr bg f (fun c x v => by unfold WLk at v; omega), k64, Z71_fr b71 f (fun c x v => by unfold WLk at v; omega), PBc_fr bpc f (fun c x v => by unfold WLk at v; omega)⟩
theorem IB_may (hm10 : m ≤ 10) (h : IBx n ag jo pa co he w wc wd wt tl tb fk fp m lb ch rl gl gs gr M) (f : Fr WMay M M')  : IBx n ag jo pa co he w wc wd wt tl tb fk fp m lb ch rl gl gs gr M' := by
  obtain ⟨hs, bp, bw, bt, bf, bl, br, bg, b64, b71, bpc⟩ := h
  exact ⟨Sh_fr hs f (fun c x v => by unfold WMay at v; unfold isP; omega), CBp_fr bp f (fun c x v => by unfold WMay at v; omega), CBw_fr bw f (fun c x v => by unfold WMay at v; omega), CBt_fr bt f (fun c x v => by unfold WMay at v; omega), CBf_fr bf f (fun c x v => by unfold WMay at v; omega), CBl_fr (n := 0) hm10 bl f (fun c x v => by unfold WMay at v; omega), CBr_fr br f (fun c x v => by unfold WMay at v; omega), CBg_fr bg f (fun c x v => by unfold WMay at v; omega), (f.1 64 0 (fun v => by unfold WMay at v; omega)).trans b64, Z71_fr b71 f (fun c x v => by unfold WMay at v; omega), PBc_fr bpc f (fun c x v => by unfold WMay at v; omega)⟩
theorem IB_si {m' : Nat} {lb' : Nat → PcD} {ch' : Nat → Nat → Int} (hm10 : m ≤ 10) (h : IBx n ag jo pa co he w wc wd wt tl tb fk fp m lb ch rl gl gs gr M) (f : Fr WSi2 M M') (kl : CBl m' lb' ch' M') : IBx n ag jo pa co he w wc wd wt tl tb fk fp m' lb' ch' rl gl gs gr M' := by
  obtain ⟨hs, bp, bw, bt, bf, bl, br, bg, b64, b71, bpc⟩ := h
  exact ⟨Sh_fr hs f (fun c x v => by unfold WSi2 at v; unfold isP; omega), CBp_fr bp f (fun c x v => by unfold WSi2 at v; omega), CBw_fr bw f (fun c x v => by unfold WSi2 at v; omega), CBt_fr bt f (fun c x v => by unfold WSi2 at v; omega), CBf_fr bf f (fun c x v => by unfold WSi2 at v; omega), kl, CBr_fr br f (fun c x v => by unfold WSi2 at v; omega), CBg_fr bg f (fun c x v => by unfold WSi2 at v; omega), (f.1 64 0 (fun v => by unfold WSi2 at v; omega)).trans b64, Z71_fr b71 f (fun c x v => by unfold WSi2 at v; omega), PBc_fr bpc f (fun c x v => by unfold WSi2 at v; omega)⟩
theorem IB_bs {m' : Nat} {lb' : Nat → PcD} {ch' : Nat → Nat → Int} (hm10 : m ≤ 10) (h : IBx n ag jo pa co he w wc wd wt tl tb fk fp m lb ch rl gl gs gr M) (f : Fr WBs2 M M') (kl : CBl m' lb' ch' M') (k71 : Z71 M') : IBx n ag jo pa co he w wc wd wt tl tb fk fp m' lb' ch' rl gl gs gr M' := by
  obtain ⟨hs, bp, bw, bt, bf, bl, br, bg, b64, b71, bpc⟩ := h
  exact ⟨Sh_fr hs f (fun c x v => by unfold WBs2 at v; unfold isP; omega), CBp_fr bp f (fun c x v => by unfold WBs2 at v; omega), CBw_fr bw f (fun c x v => by unfold WBs2 at v; omega), CBt_fr bt f (fun c x v => by unfold WBs2 at v; omega), CBf_fr bf f (fun c x v => by unfold WBs2 at v; omega), kl, CBr_fr br f (fun c x v => by unfold WBs2 at v; omega), CBg_fr bg f (fun c x v => by unfold WBs2 at v; omega), (f.1 64 0 (fun v => by unfold WBs2 at v; omega)).trans b64, k71, PBc_fr bpc f (fun c x v => by unfold WBs2 at v; omega)⟩
theorem IB_rl {tl' : Nat} {tb' : Nat → Int} {fk' : Int} {fp' : Int} {rl' : List Int} (hm10 : m ≤ 10) (h : IBx n ag jo pa co he w wc wd wt tl tb fk fp m lb ch rl gl gs gr M) (f : Fr WRl M M') (kt : CBt tl' tb' M') (kr : CBr rl' M') (kf : CBf fk' fp' M') : IBx n ag jo pa co he w wc wd wt tl' tb' fk' fp' m lb ch rl' gl gs gr M' := by
  obtain ⟨hs, bp, bw, bt, bf, bl, br, bg, b64, b71, bpc⟩ := h
  exact ⟨Sh_fr hs f (fun c x v => by unfold WRl at v; unfold isP; omega), CBp_fr bp f (fun c x v => by unfold WRl at v; omega), CBw_fr bw f (fun c x v => by unfold WRl at v; omega), kt, kf, CBl_fr (n := 0) hm10 bl f (fun c x v => by unfold WRl at v; omega), kr, CBg_fr bg f (fun c x v => by unfold WRl at v; omega), (f.1 64 0 (fun v => by unfold WRl at v; omega)).trans b64, Z71_fr b71 f (fun c x v => by unfold WRl at v; omega), PBc_fr bpc f (fun c x v => by unfold WRl at v; omega)⟩
def WLd2 (c x : Nat) : Prop := (8 ≤ c ∧ c ≤ 47 ∧ ¬ isP c x) ∨ (c = 48 ∧ 1 ≤ x ∧ x ≤ 9) ∨ (c = 6 ∧ (x = 1 ∨ x = 2))
theorem WLd_2 {m c x : Nat} (h : WLd m c x) : WLd2 c x := by
  unfold WLd WTx WRd at h
  unfold WLd2
  rcases h with (h | h | h) | h | h
  · left; exact ⟨by omega, h.2.1, h.2.2⟩
  · right; left; omega
  · right; right; omega
  · right; left; omega
  · right; right; omega
theorem IB_ld {tl' : Nat} {tb' : Nat → Int} {fk' : Int} {fp' : Int} {m' : Nat} {lb' : Nat → PcD} {ch' : Nat → Nat → Int} (hm10 : m ≤ 10) (h : IBx n ag jo pa co he w wc wd wt tl tb fk fp m lb ch rl gl gs gr M) (f : Fr WLd2 M M') (kt : CBt tl' tb' M') (kl : CBl m' lb' ch' M') (kf : CBf fk' fp' M') : IBx n ag jo pa co he w wc wd wt tl' tb' fk' fp' m' lb' ch' rl gl gs gr M' := by
  obtain ⟨hs, bp, bw, bt, bf, bl, br, bg, b64, b71, bpc⟩ := h
  exact ⟨Sh_fr hs f (fun c x v => by unfold WLd2 at v; rcases v with v | v; exact v.2.2; unfold isP; omega), CBp_fr bp f (fun c x v => by unfold WLd2 at v; omega), CBw_fr bw f (fun c x v => by unfold WLd2 at v; omega), kt, kf, kl, CBr_fr br f (fun c x v => by unfold WLd2 at v; omega), CBg_fr bg f (fun c x v => by unfold WLd2 at v; omega), (f.1 64 0 (fun v => by unfold WLd2 at v; omega)).trans b64, Z71_fr b71 f (fun c x v => by unfold WLd2 at v; omega), PBc_fr bpc f (fun c x v => by unfold WLd2 at v; omega)⟩
theorem IM_pl {n' : Nat} {ag' : Nat → Int} {jo' : Nat → Int} {pa' : Nat → Int} {co' : Nat → Nat → Int} {he' : Nat → Bool} (h : IMx n ag jo pa co he w wc wd wt tl tb fk fp m lb ch rl gl gs gr M) (f : Fr WMp M M') (kp : CMp n' ag' jo' pa' co' he' M') : IMx n' ag' jo' pa' co' he' w wc wd wt tl tb fk fp m lb ch rl gl gs gr M' := by
  obtain ⟨ap, aw, at1, af, al, ar, ag1⟩ := h
  exact ⟨kp, CMw_fr aw f (fun c x v => by unfold WMp at v; omega), CMt_fr at1 f (fun c x v => by unfold WMp at v; omega), CMf_fr af f (fun c x v => by unfold WMp at v; omega), CMl_fr al f (fun c x v => by unfold WMp at v; omega), CMr_fr ar f (fun c x v => by unfold WMp at v; omega), CMg_fr ag1 f (fun c x v => by unfold WMp at v; omega)⟩
theorem IM_w {w' : Nat} {wc' : Nat → Int} {wd' : Nat → Int} {wt' : Nat → Int} (h : IMx n ag jo pa co he w wc wd wt tl tb fk fp m lb ch rl gl gs gr M) (f : Fr WMw M M') (kw : CMw w' wc' wd' wt' M') : IMx n ag jo pa co he w' wc' wd' wt' tl tb fk fp m lb ch rl gl gs gr M' := by
  obtain ⟨ap, aw, at1, af, al, ar, ag1⟩ := h
  exact ⟨CMp_fr ap f (fun c x v => by unfold WMw at v; omega), kw, CMt_fr at1 f (fun c x v => by unfold WMw at v; omega), CMf_fr af f (fun c x v => by unfold WMw at v; omega), CMl_fr al f (fun c x v => by unfold WMw at v; omega), CMr_fr ar f (fun c x v => by unfold WMw at v; omega), CMg_fr ag1 f (fun c x v => by unfold WMw at v; omega)⟩
theorem IM_t {tl' : Nat} {tb' : Nat → Int} (h : IMx n ag jo pa co he w wc wd wt tl tb fk fp m lb ch rl gl gs gr M) (f : Fr WMt M M') (kt : CMt tl' tb' M') : IMx n ag jo pa co he w wc wd wt tl' tb' fk fp m lb ch rl gl gs gr M' := by
  obtain ⟨ap, aw, at1, af, al, ar, ag1⟩ := h
  exact ⟨CMp_fr ap f (fun c x v => by unfold WMt at v; omega), CMw_fr aw f (fun c x v => by unfold WMt at v; omega), kt, CMf_fr af f (fun c x v => by unfold WMt at v; omega), CMl_fr al f (fun c x v => by unfold WMt at v; omega), CMr_fr ar f (fun c x v => by unfold WMt at v; omega), CMg_fr ag1 f (fun c x v => by unfold WMt at v; omega)⟩
theorem IM_s {m' : Nat} {lb' : Nat → PcD} {ch' : Nat → Nat → Int} (h : IMx n ag jo pa co he w wc wd wt tl tb fk fp m lb ch rl gl gs gr M) (f : Fr WMs M M') (kl : CMl m' lb' ch' M') : IMx n ag jo pa co he w wc wd wt tl tb fk fp m' lb' ch' rl gl gs gr M' := by
  obtain ⟨ap, aw, at1, af, al, ar, ag1⟩ := h
  exact ⟨CMp_fr ap f (fun c x v => by unfold WMs at v; omega), CMw_fr aw f (fun c x v => by unfold WMs at v; omega), CMt_fr at1 f (fun c x v => by unfold WMs at v; omega), CMf_fr af f (fun c x v => by unfold WMs at v; omega), kl, CMr_fr ar f (fun c x v => by unfold WMs at v; omega), CMg_fr ag1 f (fun c x v => by unfold WMs at v; omega)⟩
theorem IM_z {m' : Nat} {lb' : Nat → PcD} {ch' : Nat → Nat → Int} (h : IMx n ag jo pa co he w wc wd wt tl tb fk fp m lb ch rl gl gs gr M) (f : Fr WMz M M') (kl : CMl m' lb' ch' M') : IMx n ag jo pa co he w wc wd wt tl tb fk fp m' lb' ch' rl gl gs gr M' := by
  obtain ⟨ap, aw, at1, af, al, ar, ag1⟩ := h
  exact ⟨CMp_fr ap f (fun c x v => by unfold WMz at v; omega), CMw_fr aw f (fun c x v => by unfold WMz at v; omega), CMt_fr at1 f (fun c x v => by unfold WMz at v; omega), CMf_fr af f (fun c x v => by unfold WMz at v; omega), kl, CMr_fr ar f (fun c x v => by unfold WMz at v; omega), CMg_fr ag1 f (fun c x v => by unfold WMz at v; omega)⟩
theorem IM_g {gl' : Nat} {gs' : Int} {gr' : Nat → Nat} (h : IMx n ag jo pa co he w wc wd wt tl tb fk fp m lb ch rl gl gs gr M) (f : Fr WMg M M') (kg : CMg gl' gs' gr' M') : IMx n ag jo pa co he w wc wd wt tl tb fk fp m lb ch rl gl' gs' gr' M' := by
  obtain ⟨ap, aw, at1, af, al, ar, ag1⟩ := h
  exact ⟨CMp_fr ap f (fun c x v => by unfold WMg at v; omega), CMw_fr aw f (fun c x v => by unfold WMg at v; omega), CMt_fr at1 f (fun c x v => by unfold WMg at v; omega), CMf_fr af f (fun c x v => by unfold WMg at v; omega), CMl_fr al f (fun c x v => by unfold WMg at v; omega), CMr_fr ar f (fun c x v => by unfold WMg at v; omega), kg⟩
theorem IM_m  (h : IMx n ag jo pa co he w wc wd wt tl tb fk fp m lb ch rl gl gs gr M) (f : Fr WMm M M')  : IMx n ag jo pa co he w wc wd wt tl tb fk fp m lb ch rl gl gs gr M' := by
  obtain ⟨ap, aw, at1, af, al, ar, ag1⟩ := h
  exact ⟨CMp_fr ap f (fun c x v => by unfold WMm at v; omega), CMw_fr aw f (fun c x v => by unfold WMm at v; omega), CMt_fr at1 f (fun c x v => by unfold WMm at v; omega), CMf_fr af f (fun c x v => by unfold WMm at v; omega), CMl_fr al f (fun c x v => by unfold WMm at v; omega), CMr_fr ar f (fun c x v => by unfold WMm at v; omega), CMg_fr ag1 f (fun c x v => by unfold WMm at v; omega)⟩
theorem IM_r {tl' : Nat} {tb' : Nat → Int} {fk' : Int} {fp' : Int} {rl' : List Int} (h : IMx n ag jo pa co he w wc wd wt tl tb fk fp m lb ch rl gl gs gr M) (f : Fr WRm M M') (kt : CMt tl' tb' M') (kr : CMr rl' M') (kf : CMf fk' fp' M') : IMx n ag jo pa co he w wc wd wt tl' tb' fk' fp' m lb ch rl' gl gs gr M' := by
  obtain ⟨ap, aw, at1, af, al, ar, ag1⟩ := h
  exact ⟨CMp_fr ap f (fun c x v => by unfold WRm at v; omega), CMw_fr aw f (fun c x v => by unfold WRm at v; omega), kt, kf, CMl_fr al f (fun c x v => by unfold WRm at v; omega), kr, CMg_fr ag1 f (fun c x v => by unfold WRm at v; omega)⟩
theorem IM_l {tl' : Nat} {tb' : Nat → Int} {fk' : Int} {fp' : Int} {m' : Nat} {lb' : Nat → PcD} {ch' : Nat → Nat → Int} (h : IMx n ag jo pa co he w wc wd wt tl tb fk fp m lb ch rl gl gs gr M) (f : Fr (WLM m) M M') (kt : CMt tl' tb' M') (kl : CMl m' lb' ch' M') (kf : CMf fk' fp' M') : IMx n ag jo pa co he w wc wd wt tl' tb' fk' fp' m' lb' ch' rl gl gs gr M' := by
  obtain ⟨ap, aw, at1, af, al, ar, ag1⟩ := h
  exact ⟨CMp_fr ap f (fun c x v => by unfold WLM WTm at v; omega), CMw_fr aw f (fun c x v => by unfold WLM WTm at v; omega), kt, kf, kl, CMr_fr ar f (fun c x v => by unfold WLM WTm at v; omega), CMg_fr ag1 f (fun c x v => by unfold WLM WTm at v; omega)⟩
theorem IM_cl (h : IMx n ag jo pa co he w wc wd wt tl tb fk fp m lb ch rl gl gs gr M) (f : Fr V M M') (hv : ∀ c x, V c x → c < 79) : IMx n ag jo pa co he w wc wd wt tl tb fk fp m lb ch rl gl gs gr M' := by
  obtain ⟨ap, aw, at1, af, al, ar, ag1⟩ := h
  exact ⟨CMp_fr ap f (fun c x v => by have := hv c x v; omega), CMw_fr aw f (fun c x v => by have := hv c x v; omega), CMt_fr at1 f (fun c x v => by have := hv c x v; omega), CMf_fr af f (fun c x v => by have := hv c x v; omega), CMl_fr al f (fun c x v => by have := hv c x v; omega), CMr_fr ar f (fun c x v => by have := hv c x v; omega), CMg_fr ag1 f (fun c x v => by have := hv c x v; omega)⟩
theorem IB_rf (hm10 : m ≤ 10) (h : IBx n ag jo pa co he w wc wd wt tl tb fk fp m lb ch rl gl gs gr M) (f : Fr V M M') (hv : ∀ c x, V c x → 79 ≤ c ∧ ¬ isP c x) : IBx n ag jo pa co he w wc wd wt tl tb fk fp m lb ch rl gl gs gr M' := by
  obtain ⟨hs, bp, bw, bt, bf, bl, br, bg, b64, b71, bpc⟩ := h
  exact ⟨Sh_fr hs f (fun c x v => (hv c x v).2), CBp_fr bp f (fun c x v => by have := hv c x v; omega), CBw_fr bw f (fun c x v => by have := hv c x v; omega), CBt_fr bt f (fun c x v => by have := hv c x v; omega), CBf_fr bf f (fun c x v => by have := hv c x v; omega), CBl_fr (n := 0) hm10 bl f (fun c x v => by have := hv c x v; omega), CBr_fr br f (fun c x v => by have := hv c x v; omega), CBg_fr bg f (fun c x v => by have := hv c x v; omega), (f.1 64 0 (fun v => by have := hv _ _ v; omega)).trans b64, Z71_fr b71 f (fun c x v => by have := hv c x v; omega), PBc_fr bpc f (fun c x v => by have := hv c x v; omega)⟩
theorem f00 : Fr WMm M (mp M 79 0 0) := Fr_mp (Or.inl ⟨rfl, rfl⟩)
/-- one call done: what holds goes on holding, little room is used -/
def GOOD (M M' : Mm) : Prop := INV M' ∧ mN M' ≤ mN M + 1 ∧ mZ M' ≤ mZ M + 10240
theorem good_1 (f : Fr V M M') (h : INV M') : GOOD M M' := ⟨h, by rw [f.2.2.1]; omega, by rw [f.2.2.2]; omega⟩
theorem good_2 {V2 : Nat → Nat → Prop} {M2 : Mm} (f : Fr V M M') (f2 : Fr V2 M' M2) (h : INV M2) : GOOD M M2 := ⟨h, by rw [f2.2.2.1, f.2.2.1]; omega, by rw [f2.2.2.2, f.2.2.2]; omega⟩
end IVX

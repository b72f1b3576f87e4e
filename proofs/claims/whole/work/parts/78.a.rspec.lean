/-! THE RULE's text, as it is read -/
abbrev Rs : Type := Ts × List Int
def ruW (x : Int) (q : Rs) : Rs := (q.1, if q.2.length < 800 then q.2 ++ [x] else q.2)
def ruA (n : Nat) (b : Nat → Int) (q : Rs) : Rs := (zN n b 4 q.1, q.2)
def ruF (n : Nat) (b : Nat → Int) (k : Int) (q : Rs) : Rs := (zF n b k q.1, q.2)
def ruV (n : Nat) (b : Nat → Int) (q : Rs) : Rs := ruA n b (if zK n b 4 q.1 = -2 then ruW (zV n b q.1) q else if zW n b 4 (txs 4) q.1 = true then ruW (-1) q else if zW n b 4 (txs 5) q.1 = true then ruW (-2) q else if zW n b 4 (txs 6) q.1 = true then ruW (-3) q else if zW n b 4 (txs 7) q.1 = true then ruW (-4) q else if zW n b 4 (txs 8) q.1 = true then ruW (-5) q else ruF n b 1 q)
def ruSl (n : Nat) (b : Nat → Int) : Nat → Rs → Rs
  | 0, q => q
  | f + 1, q => if zK n b 4 q.1 = 43 ∨ zK n b 4 q.1 = 45 then ruSl n b f (ruW (-(zK n b 4 q.1)) (ruV n b (ruA n b q))) else q
def ruS (n : Nat) (b : Nat → Int) (q : Rs) : Rs := ruSl n b 800 (ruV n b q)
def ruC1 (n : Nat) (b : Nat → Int) (q : Rs) : Rs := if zK n b 4 q.1 = 60 ∨ zK n b 4 q.1 = 61 ∨ zK n b 4 q.1 = 62 then q else ruF n b 1 q
def ruC (n : Nat) (b : Nat → Int) (q : Rs) : Rs := ruW (-(zK n b 4 (ruS n b q).1)) (ruS n b (ruA n b (ruC1 n b (ruS n b q))))
def ruBl (n : Nat) (b : Nat → Int) (one : Rs → Rs) : Nat → Rs → Rs
  | 0, q => q
  | f + 1, q => if zK n b 4 q.1 = 38 then ruBl n b one f (ruW (-38) (one (ruA n b q))) else q
def ruB (n : Nat) (b : Nat → Int) (one : Rs → Rs) (q : Rs) : Rs := ruBl n b one 800 (one q)
def ruEl (n : Nat) (b : Nat → Int) (one : Rs → Rs) : Nat → Rs → Rs
  | 0, q => q
  | f + 1, q => if zK n b 4 q.1 = 124 then ruEl n b one f (ruW (-124) (ruB n b one (ruA n b q))) else q
def ruE (n : Nat) (b : Nat → Int) (one : Rs → Rs) (q : Rs) : Rs := ruEl n b one 800 (ruB n b one q)
def ruT (n : Nat) (b : Nat → Int) (q : Rs) : Rs := (zTake n b 4 41 q.1, q.2)
def ruO (n : Nat) (b : Nat → Int) : Nat → Rs → Rs
  | 0, q => if zK n b 4 q.1 = 33 ∨ zK n b 4 q.1 = 40 then ruF n b 4 q else ruC n b q
  | g + 1, q => if zK n b 4 q.1 = 33 then ruW (-33) (ruO n b g (ruA n b q)) else if zK n b 4 q.1 = 40 then ruT n b (ruE n b (ruO n b g) (ruA n b q)) else ruC n b q
def rlR (n : Nat) (b : Nat → Int) : Rs := ruE n b (ruO n b 8) (.inl (0, tks n b 4 0 0), [])
def rlT (n : Nat) (b : Nat → Int) : Ts := zEnd n b 4 (rlR n b).1
/-! the class reads THE RULE -/
def CR (n : Nat) (b : Nat → Int) (dr : Nat) (q : Rs) (M : Mm) : Prop := RS n b 4 q.1 M ∧ mg M 50 3 = (dr : Int) + 1 ∧ mg M 50 5 = (q.2.length : Int) ∧ q.2.length ≤ 800 ∧ ∀ i, i < q.2.length → mg M dr i = q.2.getD i 0
def WRu (dr c x : Nat) : Prop := WRd c x ∨ (c = 50 ∧ x = 5) ∨ c = dr
theorem zK_b {n : Nat} {b : Nat → Int} (ho : OKt n b) {σ : Ts} : -4 ≤ zK n b 4 σ ∧ zK n b 4 σ ≤ 255 := by
  cases σ with
  | inr e => show -4 ≤ (-4 : Int) ∧ (-4 : Int) ≤ 255; omega
  | inl q =>
    show -4 ≤ ckd n b 4 q.1 ∧ ckd n b 4 q.1 ≤ 255
    have := ho.2 (tPl n b q.1)
    have h2 : tBy n b q.1 = b (tPl n b q.1) := rfl
    unfold ckd
    split
    · omega
    · split
      · omega
      · split
        · omega
        · split <;> omega
section CRU
variable {n : Nat} {b : Nat → Int} {dr : Nat} {q : Rs} {M : Mm}
theorem CR_rd {σ : Ts} {M' : Mm} (hd : dr = 53 ∨ dr = 54) (h : CR n b dr q M) (h' : RS n b 4 σ M') (f : Fr WRd M M') : CR n b dr (σ, q.2) M' := by
  refine ⟨h', ?_, ?_, h.2.2.2.1, fun i hi => ?_⟩
  · rw [f.1 _ _ (by unfold WRd; omega)]; exact h.2.1
  · rw [f.1 _ _ (by unfold WRd; omega)]; exact h.2.2.1
  · rw [f.1 _ _ (by unfold WRd; omega)]; exact h.2.2.2.2 i hi
theorem gd_app {l : List Int} {x : Int} {i : Nat} (h : i < l.length) : (l ++ [x]).getD i 0 = l.getD i 0 := by
  rw [List.getD_eq_getElem?_getD, List.getD_eq_getElem?_getD, List.getElem?_append_left h]
theorem gd_last {l : List Int} {x : Int} : (l ++ [x]).getD l.length 0 = x := by
  rw [List.getD_eq_getElem?_getD, List.getElem?_append_right (Nat.le_refl _), Nat.sub_self]; rfl
theorem len_app {l : List Int} {x : Int} : (l ++ [x]).length = l.length + 1 := by rw [List.length_append]; rfl
theorem c_write (hd : dr = 53 ∨ dr = 54) (h : CR n b dr q M) (x : Int) : wp (f_Rule_write M 51 x) (fun M' => CR n b dr (ruW x q) M' ∧ Fr (WRu dr) M M') := by
  obtain ⟨h1, h2, h3, h4, h5⟩ := h
  have hs := h1.1.1
  unfold f_Rule_write
  rw [show cI 51 = 50 from rfl, h3, h2, cI_s, Int.toNat_natCast]
  have hl : ml M dr = 800 := by rcases hd with e | e <;> rw [e]; exact n_53 hs; exact n_54 hs
  rw [hl]
  refine wC (fun c => ?_) (fun c => ?_)
  · have e : ruW x q = q := by unfold ruW; rw [if_neg (by omega)]
    rw [e]; exact wS ⟨⟨h1, h2, h3, h4, h5⟩, Fr_rf⟩
  · have e : ruW x q = (q.1, q.2 ++ [x]) := by unfold ruW; rw [if_pos (by omega)]
    rw [e]
    refine wI (by omega) (wI (by omega) (wL ?_))
    rw [show mg (mp M dr q.2.length x) 50 5 = (q.2.length : Int) by rw [mg_mp_n (by omega)]; exact h3, w32_s (by omega) (by omega)]
    have f : Fr (WRu dr) M (mp (mp M dr q.2.length x) 50 5 ((q.2.length : Int) + 1)) := Fr_wr (Fr_mp (Or.inr (Or.inr rfl))) (Or.inr (Or.inl ⟨rfl, rfl⟩))
    have f' : Fr (fun c y => c = dr ∨ (c = 50 ∧ y = 5)) M (mp (mp M dr q.2.length x) 50 5 ((q.2.length : Int) + 1)) := Fr_wr (Fr_mp (Or.inl rfl)) (Or.inr ⟨rfl, rfl⟩)
    refine wL (wS ⟨⟨RS_fr h1 f' (fun c x w => by unfold isP; omega), ?_, ?_, ?_, fun i hi => ?_⟩, f⟩)
    · rw [mg_mp_n (by omega), mg_mp_n (by omega)]; exact h2
    · rw [mg_mp_s]; show _ = ((q.2 ++ [x]).length : Int); rw [len_app]; omega
    · show (q.2 ++ [x]).length ≤ 800; rw [len_app]; omega
    · have hi : i < (q.2 ++ [x]).length := hi
      rw [len_app] at hi
      show _ = (q.2 ++ [x]).getD i 0
      rw [mg_mp_n (by omega)]
      by_cases ei : i = q.2.length
      · rw [ei, mg_mp_s, gd_last]
      · rw [mg_mp_n (by omega), gd_app (by omega)]; exact h5 i (by omega)
theorem c_rA (ho : OKt n b) (hd : dr = 53 ∨ dr = 54) (h : CR n b dr q M) : wp (f_Tape_advance M 49) (fun M' => CR n b dr (ruA n b q) M' ∧ Fr (WRu dr) M M') := wM (r_adv ho (by decide) h.1) (fun _ hm => ⟨CR_rd hd h hm.1 hm.2, Fr_sub hm.2 (fun _ _ w => Or.inl w)⟩)
theorem c_rF (hd : dr = 53 ∨ dr = 54) (h : CR n b dr q M) {k : Int} (hk : k = 1 ∨ k = 2 ∨ k = 3 ∨ k = 4) : wp (f_Tape_fail M 49 k) (fun M' => CR n b dr (ruF n b k q) M' ∧ Fr (WRu dr) M M') := wM (r_fail hk h.1) (fun _ hm => ⟨CR_rd hd h hm.1 hm.2, Fr_sub hm.2 (fun _ _ w => Or.inl w)⟩)
theorem c_rT (ho : OKt n b) (hd : dr = 53 ∨ dr = 54) (h : CR n b dr q M) : wp (f_Tape_take M 49 41) (fun M' => CR n b dr (ruT n b q) M' ∧ Fr (WRu dr) M M') := wM (r_take ho (by decide) h.1) (fun _ hm => ⟨CR_rd hd h hm.1 hm.2, Fr_sub hm.2 (fun _ _ w => Or.inl w)⟩)
theorem c_rV (ho : OKt n b) (hd : dr = 53 ∨ dr = 54) (h : CR n b dr q M) : wp (f_Rule_readValue M 51 49) (fun M' => CR n b dr (ruV n b q) M' ∧ Fr (WRu dr) M M') := by
  unfold f_Rule_readValue j_Rule_readValue_114 ruV
  have r : ∀ (w : Nat) (z : Int), w < 9 → z = (w : Int) → f_Tape_reads M 49 z = some (if zW n b 4 (txs w) q.1 = true then 1 else 0) := fun w z hw e => by rw [e]; exact r_reads ho h.1 hw
  have go : ∀ x q', q' = ruW x q → wp ((f_Rule_write M 51 x).bind (fun p => (f_Tape_advance p 49).bind (fun p => some p))) (fun M' => CR n b dr (ruA n b q') M' ∧ Fr (WRu dr) M M') := fun x q' e => by
    rw [e]
    exact wK (c_write hd h x) (fun m1 g1 => wK (c_rA ho hd g1.1) (fun m2 g2 => wS ⟨g2.1, Fr_tr g1.2 g2.2⟩))
  rw [show cI 49 = 48 from rfl, RS_k h.1, r 4 4 (by decide) rfl, Option.bind_some, r 5 5 (by decide) rfl, Option.bind_some, r 6 6 (by decide) rfl, Option.bind_some, r 7 7 (by decide) rfl, Option.bind_some, r 8 8 (by decide) rfl, Option.bind_some]
  by_cases c : zK n b 4 q.1 = -2
  · have hv : mg M 48 6 = zV n b q.1 := by
      obtain ⟨σ, l⟩ := q
      cases σ with
      | inr e => cases c
      | inl p => exact h.1.2.2.2.2.2.2.1 ((ckd_m2 ho).mp c)
    rw [if_neg (by omega), hv]
    exact go _ _ (by rw [if_pos c])
  · rw [if_pos c]
    simp only [if_neg c]
    cases w4 : zW n b 4 (txs 4) q.1 with
    | true => exact wE (by decide) (go _ _ (by rw [if_pos rfl]))
    | false =>
    refine wI (by decide) ?_
    cases w5 : zW n b 4 (txs 5) q.1 with
    | true => exact wE (by decide) (go _ _ (by rw [if_neg (by decide), if_pos rfl]))
    | false =>
    refine wI (by decide) ?_
    cases w6 : zW n b 4 (txs 6) q.1 with
    | true => exact wE (by decide) (go _ _ (by rw [if_neg (by decide), if_neg (by decide), if_pos rfl]))
    | false =>
    refine wI (by decide) ?_
    cases w7 : zW n b 4 (txs 7) q.1 with
    | true => exact wE (by decide) (go _ _ (by rw [if_neg (by decide), if_neg (by decide), if_neg (by decide), if_pos rfl]))
    | false =>
    refine wI (by decide) ?_
    cases w8 : zW n b 4 (txs 8) q.1 with
    | true => exact wE (by decide) (go _ _ (by rw [if_neg (by decide), if_neg (by decide), if_neg (by decide), if_neg (by decide), if_pos rfl]))
    | false =>
    refine wI (by decide) ?_
    simp only [Bool.false_eq_true, if_false]
    exact wK (c_rF hd h (Or.inl rfl)) (fun m1 g1 => wK (c_rA ho hd g1.1) (fun m2 g2 => wS ⟨g2.1, Fr_tr g1.2 g2.2⟩))
theorem c_rS (ho : OKt n b) (hd : dr = 53 ∨ dr = 54) (h : CR n b dr q M) : wp (f_Rule_readSum M 51 49) (fun M' => CR n b dr (ruS n b q) M' ∧ Fr (WRu dr) M M') := by
  unfold f_Rule_readSum ruS
  refine wK (c_rV ho hd h) (fun m1 g1 => ?_)
  refine wK (wp_loop (Q := fun M' => CR n b dr (ruSl n b 800 (ruV n b q)) M' ∧ Fr (WRu dr) M M') (fun j s => s.1 = (j : Int) ∧ j ≤ 800 ∧ ∃ q', CR n b dr q' s.2 ∧ ruSl n b 800 (ruV n b q) = ruSl n b (800 - j) q' ∧ Fr (WRu dr) M s.2) 800 (by decide) ⟨rfl, by omega, _, g1.1, rfl, g1.2⟩ ?_) (fun t ht => wS ht)
  rintro j ⟨i, m⟩ hj ⟨hi, hj4, q', hs, hq, hf⟩
  have hi : i = (j : Int) := hi
  have hs : CR n b dr q' m := hs
  have hf : Fr (WRu dr) M m := hf
  unfold l_Rule_readSum_7 j_Rule_readSum_32_7
  simp only []
  subst hi
  refine wC (fun c => wSr ?_) (fun c => ?_)
  · rw [hq, show 800 - j = 0 by omega]
    exact ⟨hs, hf⟩
  · rw [show cI 49 = 48 from rfl, RS_k hs.1]
    have e4 : 800 - j = (800 - (j + 1)) + 1 := by omega
    have un : ruSl n b (800 - j) q' = if zK n b 4 q'.1 = 43 ∨ zK n b 4 q'.1 = 45 then ruSl n b (800 - (j + 1)) (ruW (-(zK n b 4 q'.1)) (ruV n b (ruA n b q'))) else q' := by rw [e4]; rfl
    have kb := zK_b ho (σ := q'.1)
    have go : (zK n b 4 q'.1 = 43 ∨ zK n b 4 q'.1 = 45) → wp (lt (zK n b 4 q'.1) (fun x4 : Int => (f_Tape_advance m 49).bind (fun p5 => (f_Rule_readValue p5 51 49).bind (fun p6 => (f_Rule_write p6 51 (w32 (-x4))).bind (fun p7 => lt (w32 ((j : Int) + 1)) (fun x8 : Int => some (Sum.inl (x8, p7) : (Int × Mm) ⊕ Mm))))))) (Sum.elim (fun s' : Int × Mm => j < 800 ∧ s'.1 = ((j + 1 : Nat) : Int) ∧ j + 1 ≤ 800 ∧ ∃ q', CR n b dr q' s'.2 ∧ ruSl n b 800 (ruV n b q) = ruSl n b (800 - (j + 1)) q' ∧ Fr (WRu dr) M s'.2) (fun M' => CR n b dr (ruSl n b 800 (ruV n b q)) M' ∧ Fr (WRu dr) M M')) := fun cc => by
      rw [if_pos cc] at un
      refine wL (wK (c_rA ho hd hs) (fun a1 k1 => wK (c_rV ho hd k1.1) (fun a2 k2 => ?_)))
      rw [w32_s (by omega) (by omega), w32_s (by omega) (by omega)]
      refine wK (c_write hd k2.1 _) (fun a3 k3 => wL (wSl ⟨by omega, by show (j : Int) + 1 = _; omega, by omega, _, k3.1, hq.trans un, Fr_tr hf (Fr_tr k1.2 (Fr_tr k2.2 k3.2))⟩))
    refine wC (fun c1 => go (Or.inl c1)) (fun c1 => wC (fun c2 => wSr ?_) (fun c2 => go (Or.inr (by omega))))
    rw [if_neg (by omega)] at un
    rw [hq, un]; exact ⟨hs, hf⟩
theorem c_rC (ho : OKt n b) (hd : dr = 53 ∨ dr = 54) (h : CR n b dr q M) : wp (f_Rule_readComparison M 51 49) (fun M' => CR n b dr (ruC n b q) M' ∧ Fr (WRu dr) M M') := by
  unfold f_Rule_readComparison j_Rule_readComparison_33 ruC
  refine wK (c_rS ho hd h) (fun m1 g1 => wL ?_)
  rw [show cI 49 = 48 from rfl, RS_k g1.1.1]
  have kb := zK_b ho (σ := (ruS n b q).1)
  have go : ∀ q1 m, q1 = ruC1 n b (ruS n b q) → CR n b dr q1 m → Fr (WRu dr) M m → wp ((f_Tape_advance m 49).bind (fun p4 => (f_Rule_readSum p4 51 49).bind (fun p5 => (f_Rule_write p5 51 (w32 (-(zK n b 4 (ruS n b q).1)))).bind (fun p6 => some p6)))) (fun M' => CR n b dr (ruW (-(zK n b 4 (ruS n b q).1)) (ruS n b (ruA n b (ruC1 n b (ruS n b q))))) M' ∧ Fr (WRu dr) M M') := fun q1 m e k f => by
    rw [← e, w32_s (by omega) (by omega)]
    exact wK (c_rA ho hd k) (fun a1 k1 => wK (c_rS ho hd k1.1) (fun a2 k2 => wK (c_write hd k2.1 _) (fun a3 k3 => wS ⟨k3.1, Fr_tr f (Fr_tr k1.2 (Fr_tr k2.2 k3.2))⟩)))
  refine wC (fun c1 => go _ m1 ?_ g1.1 g1.2) (fun c1 => wC (fun c2 => go _ m1 ?_ g1.1 g1.2) (fun c2 => wC (fun c3 => go _ m1 ?_ g1.1 g1.2) (fun c3 => wK (c_rF hd g1.1 (Or.inl rfl)) (fun a k => go _ a ?_ k.1 (Fr_tr g1.2 k.2)))))
  · unfold ruC1; rw [if_pos (Or.inl c1)]
  · unfold ruC1; rw [if_pos (Or.inr (Or.inl c2))]
  · unfold ruC1; rw [if_pos (Or.inr (Or.inr c3))]
  · unfold ruC1; rw [if_neg (by omega)]
def Hrc (n : Nat) (b : Nat → Int) (dr : Nat) (rc : Mm → Int → Int → Int → Option Mm) (a2 : Int) (one : Rs → Rs) : Prop := ∀ q M, CR n b dr q M → wp (rc M 51 49 a2) (fun M' => CR n b dr (one q) M' ∧ Fr (WRu dr) M M')
variable {rc : Mm → Int → Int → Int → Option Mm} {a2 : Int} {one : Rs → Rs}
theorem c_rB (ho : OKt n b) (hd : dr = 53 ∨ dr = 54) (hr : Hrc n b dr rc a2 one) (h : CR n b dr q M) : wp (f_Rule_readBoth rc M 51 49 a2) (fun M' => CR n b dr (ruB n b one q) M' ∧ Fr (WRu dr) M M') := by
  unfold f_Rule_readBoth ruB
  refine wK (hr q M h) (fun m1 g1 => ?_)
  refine wK (wp_loop (Q := fun M' => CR n b dr (ruBl n b one 800 (one q)) M' ∧ Fr (WRu dr) M M') (fun j s => s.1 = (j : Int) ∧ j ≤ 800 ∧ ∃ q', CR n b dr q' s.2 ∧ ruBl n b one 800 (one q) = ruBl n b one (800 - j) q' ∧ Fr (WRu dr) M s.2) 800 (by decide) ⟨rfl, by omega, _, g1.1, rfl, g1.2⟩ ?_) (fun t ht => wS ht)
  rintro j ⟨i, m⟩ hj ⟨hi, hj4, q', hs, hq, hf⟩
  have hi : i = (j : Int) := hi
  have hs : CR n b dr q' m := hs
  have hf : Fr (WRu dr) M m := hf
  unfold l_Rule_readBoth_8
  simp only []
  subst hi
  refine wC (fun c => wSr ?_) (fun c => ?_)
  · rw [hq, show 800 - j = 0 by omega]
    exact ⟨hs, hf⟩
  · rw [show cI 49 = 48 from rfl, RS_k hs.1]
    have e4 : 800 - j = (800 - (j + 1)) + 1 := by omega
    have un : ruBl n b one (800 - j) q' = if zK n b 4 q'.1 = 38 then ruBl n b one (800 - (j + 1)) (ruW (-38) (one (ruA n b q'))) else q' := by rw [e4]; rfl
    refine wC (fun c1 => wSr ?_) (fun c1 => ?_)
    · rw [if_neg c1] at un
      rw [hq, un]; exact ⟨hs, hf⟩
    · rw [if_pos (by omega)] at un
      rw [w32_s (by omega) (by omega)]
      exact wK (c_rA ho hd hs) (fun a1 k1 => wK (hr _ _ k1.1) (fun a2 k2 => wK (c_write hd k2.1 _) (fun a3 k3 => wL (wSl ⟨by omega, by show (j : Int) + 1 = _; omega, by omega, _, k3.1, hq.trans un, Fr_tr hf (Fr_tr k1.2 (Fr_tr k2.2 k3.2))⟩))))
theorem c_rE (ho : OKt n b) (hd : dr = 53 ∨ dr = 54) (hr : Hrc n b dr rc a2 one) (h : CR n b dr q M) : wp (f_Rule_readEither rc M 51 49 a2) (fun M' => CR n b dr (ruE n b one q) M' ∧ Fr (WRu dr) M M') := by
  unfold f_Rule_readEither ruE
  refine wK (c_rB ho hd hr h) (fun m1 g1 => ?_)
  refine wK (wp_loop (Q := fun M' => CR n b dr (ruEl n b one 800 (ruB n b one q)) M' ∧ Fr (WRu dr) M M') (fun j s => s.1 = (j : Int) ∧ j ≤ 800 ∧ ∃ q', CR n b dr q' s.2 ∧ ruEl n b one 800 (ruB n b one q) = ruEl n b one (800 - j) q' ∧ Fr (WRu dr) M s.2) 800 (by decide) ⟨rfl, by omega, _, g1.1, rfl, g1.2⟩ ?_) (fun t ht => wS ht)
  rintro j ⟨i, m⟩ hj ⟨hi, hj4, q', hs, hq, hf⟩
  have hi : i = (j : Int) := hi
  have hs : CR n b dr q' m := hs
  have hf : Fr (WRu dr) M m := hf
  unfold l_Rule_readEither_8
  simp only []
  subst hi
  refine wC (fun c => wSr ?_) (fun c => ?_)
  · rw [hq, show 800 - j = 0 by omega]
    exact ⟨hs, hf⟩
  · rw [show cI 49 = 48 from rfl, RS_k hs.1]
    have e4 : 800 - j = (800 - (j + 1)) + 1 := by omega
    have un : ruEl n b one (800 - j) q' = if zK n b 4 q'.1 = 124 then ruEl n b one (800 - (j + 1)) (ruW (-124) (ruB n b one (ruA n b q'))) else q' := by rw [e4]; rfl
    refine wC (fun c1 => wSr ?_) (fun c1 => ?_)
    · rw [if_neg c1] at un
      rw [hq, un]; exact ⟨hs, hf⟩
    · rw [if_pos (by omega)] at un
      rw [w32_s (by omega) (by omega)]
      exact wK (c_rA ho hd hs) (fun a1 k1 => wK (c_rB ho hd hr k1.1) (fun a2 k2 => wK (c_write hd k2.1 _) (fun a3 k3 => wL (wSl ⟨by omega, by show (j : Int) + 1 = _; omega, by omega, _, k3.1, hq.trans un, Fr_tr hf (Fr_tr k1.2 (Fr_tr k2.2 k3.2))⟩))))
theorem c_rO (ho : OKt n b) (hd : dr = 53 ∨ dr = 54) : ∀ g, g ≤ 8 → Hrc n b dr (f_Rule_readOne (g + 1)) (((8 - g : Nat) : Int)) (ruO n b g)
  | 0, _, q, M, h => by
    show wp (g_Rule_readOne (f_Rule_readOne 0) M 51 49 ((8 : Nat) : Int)) (fun M' => CR n b dr (if zK n b 4 q.1 = 33 ∨ zK n b 4 q.1 = 40 then ruF n b 4 q else ruC n b q) M' ∧ Fr (WRu dr) M M')
    unfold g_Rule_readOne j_Rule_readOne_23
    rw [show cI 49 = 48 from rfl, RS_k h.1]
    refine wL (wC (fun c1 => ?_) (fun c1 => wC (fun c2 => ?_) (fun c2 => ?_)))
    · rw [if_pos (Or.inl c1)]
      exact wE (by decide) (wK (c_rF hd h (Or.inr (Or.inr (Or.inr rfl)))) (fun _ k => wS k))
    · rw [if_pos (Or.inr c2)]
      exact wE (by decide) (wK (c_rF hd h (Or.inr (Or.inr (Or.inr rfl)))) (fun _ k => wS k))
    · rw [if_neg (by omega)]
      exact wK (c_rC ho hd h) (fun _ k => wS k)
  | g + 1, hg, q, M, h => by
    have ih := c_rO ho hd g (by omega)
    show wp (g_Rule_readOne (f_Rule_readOne (g + 1)) M 51 49 ((8 - (g + 1) : Nat) : Int)) (fun M' => CR n b dr (if zK n b 4 q.1 = 33 then ruW (-33) (ruO n b g (ruA n b q)) else if zK n b 4 q.1 = 40 then ruT n b (ruE n b (ruO n b g) (ruA n b q)) else ruC n b q) M' ∧ Fr (WRu dr) M M')
    have e1 : w32 (((8 - (g + 1) : Nat) : Int) + 1) = ((8 - g : Nat) : Int) := by rw [w32_s (by omega) (by omega)]; omega
    unfold g_Rule_readOne j_Rule_readOne_23
    rw [show cI 49 = 48 from rfl, RS_k h.1, e1]
    refine wL (wC (fun c1 => ?_) (fun c1 => wC (fun c2 => ?_) (fun c2 => ?_)))
    · rw [if_pos c1]
      exact wI (by omega) (wK (c_rA ho hd h) (fun m1 k1 => wE (by omega) (wK (ih _ _ k1.1) (fun m2 k2 => wK (c_write hd k2.1 _) (fun m3 k3 => wS ⟨k3.1, Fr_tr k1.2 (Fr_tr k2.2 k3.2)⟩)))))
    · rw [if_neg c1, if_pos c2]
      exact wI (by omega) (wK (c_rA ho hd h) (fun m1 k1 => wI (by omega) (wK (c_rE ho hd ih k1.1) (fun m2 k2 => wK (c_rT ho hd k2.1) (fun m3 k3 => wS ⟨k3.1, Fr_tr k1.2 (Fr_tr k2.2 k3.2)⟩)))))
    · rw [if_neg c1, if_neg c2]
      exact wK (c_rC ho hd h) (fun _ k => wS k)
/-- THE RULE as the class keeps it -/
def CBr (rl : List Int) (M : Mm) : Prop := ∃ st dr : Nat, ((st = 53 ∧ dr = 54) ∨ (st = 54 ∧ dr = 53)) ∧ mg M 50 2 = (st : Int) + 1 ∧ mg M 50 3 = (dr : Int) + 1 ∧ mg M 50 4 = (rl.length : Int) ∧ rl.length ≤ 800 ∧ ∀ i, i < rl.length → mg M st i = rl.getD i 0
def WRl (c x : Nat) : Prop := (c = 50 ∧ 2 ≤ x ∧ x ≤ 5) ∨ c = 53 ∨ c = 54 ∨ (c = 48 ∧ 1 ≤ x ∧ x ≤ 9)
theorem b_rule (ho : OKt n b) (hs : Sh M) (ht : CBt n b M) {rl : List Int} (hr : CBr rl M) : wp (f_Band_rule M 1) (fun r => Fr WRl M r.2 ∧ mg r.2 48 1 = 0 ∧ match rlT n b with
    | .inl y => r.1 = (y.2 : Int) ∧ CBr (rlR n b).2 r.2 ∧ mg r.2 48 8 = 0 ∧ mg r.2 48 9 = -1
    | .inr e => r.1 = -1 ∧ CBr rl r.2 ∧ mg r.2 48 8 = e.1 ∧ mg r.2 48 9 = e.2) := by
  obtain ⟨st, dr, hsd, h2, h3, h4, h5, h6⟩ := hr
  have hd : dr = 53 ∨ dr = 54 := by omega
  unfold f_Band_rule
  rw [show cI 1 = 0 from rfl, p_0_3 hs]
  unfold f_Rule_beginDraft
  rw [show cI 51 = 50 from rfl]
  refine wI (by decide) (wK (wL (wS rfl)) (fun m0 e0 => ?_))
  have f0 : Fr (fun c x => c = 50 ∧ x = 5) M m0 := by rw [← e0]; exact Fr_mp ⟨rfl, rfl⟩
  have s0 : Sh m0 := Sh_fr hs f0 (fun c x w => by unfold isP; omega)
  have e05 : mg m0 50 5 = 0 := by rw [← e0, mg_mp_s]
  rw [p_0_2 s0]
  refine wI (by decide) (wK (r_begin ho (dg := 4) (by decide) rfl s0 (CBt_fr ht f0 (fun c x w => by omega))) (fun m1 g1 => ?_))
  have s1 := g1.1.1.1
  have cr : CR n b dr (.inl (0, tks n b 4 0 0), []) m1 := by
    refine ⟨g1.1, ?_, ?_, Nat.zero_le _, fun i hi => absurd hi (Nat.not_lt_zero _)⟩
    · rw [g1.2.1 _ _ (by omega), f0.1 _ _ (by omega)]; exact h3
    · rw [g1.2.1 _ _ (by omega)]; exact e05
  have F1 : Fr (fun c x => (c = 50 ∧ x = 5) ∨ c = dr ∨ (c = 48 ∧ 1 ≤ x ∧ x ≤ 9)) M m1 := Fr_tr (Fr_sub f0 (fun c x w => by omega)) (Fr_sub g1.2 (fun c x w => by omega))
  rw [p_0_3 s1, p_0_2 s1]
  have one := c_rO ho hd 8 (by decide)
  refine wI (by decide) (wI (by decide) (wK (c_rE ho hd one cr) (fun m2 g2 => ?_)))
  obtain ⟨k1, k2⟩ := g2
  have k1 : CR n b dr (rlR n b) m2 := k1
  have s2 := k1.1.1.1
  have F2 : Fr (fun c x => (c = 50 ∧ x = 5) ∨ c = dr ∨ (c = 48 ∧ 1 ≤ x ∧ x ≤ 9)) M m2 := Fr_tr F1 (Fr_sub k2 (fun c x w => by unfold WRu WRd at w; omega))
  rw [p_0_2 s2]
  refine wI (by decide) (wK (r_finish k1.1) (fun p9 g9 => ?_))
  obtain ⟨j1, j2, j3, j4⟩ := g9
  have F3 : Fr (fun c x => (c = 50 ∧ x = 5) ∨ c = dr ∨ (c = 48 ∧ 1 ≤ x ∧ x ≤ 9)) M p9.2 := Fr_tr F2 (Fr_sub j4 (fun c x w => by omega))
  have s3 : Sh p9.2 := Sh_fr hs F3 (fun c x w => by unfold isP; omega)
  have j1 : p9.1 = match rlT n b with | .inl _ => 1 | .inr _ => 0 := j1
  have j3 : match rlT n b with | .inl y => mg p9.2 48 7 = (y.2 : Int) ∧ mg p9.2 48 8 = 0 ∧ mg p9.2 48 9 = -1 | .inr e => mg p9.2 48 8 = e.1 ∧ mg p9.2 48 9 = e.2 := j3
  cases hτ : rlT n b with
  | inr e =>
    rw [hτ] at j1 j3
    have j1 : p9.1 = 0 := j1
    refine wE (by rw [j1]; decide) (wS ⟨Fr_sub F3 (fun c x w => by unfold WRl; omega), j2, rfl, ⟨st, dr, hsd, ?_, ?_, ?_, h5, fun i hi => ?_⟩, j3.1, j3.2⟩)
    · rw [F3.1 _ _ (by omega)]; exact h2
    · rw [F3.1 _ _ (by omega)]; exact h3
    · rw [F3.1 _ _ (by omega)]; exact h4
    · rw [F3.1 _ _ (by omega)]; exact h6 i hi
  | inl y =>
    rw [hτ] at j1 j3
    have j1 : p9.1 = 1 := j1
    refine wI (by rw [j1]; decide) ?_
    rw [p_0_3 s3]
    unfold f_Rule_adoptDraft
    rw [show cI 51 = 50 from rfl]
    have a2 : mg p9.2 50 2 = (st : Int) + 1 := by rw [F3.1 _ _ (by omega)]; exact h2
    have a3 : mg p9.2 50 3 = (dr : Int) + 1 := by rw [F3.1 _ _ (by omega)]; exact h3
    have a5 : mg p9.2 50 5 = ((rlR n b).2.length : Int) := by rw [j4.1 _ _ (by omega)]; exact k1.2.2.1
    rw [a2, a3]
    refine wI (by decide) (wK (wL (wL (wL (wL (wS rfl))))) (fun m4 e4 => ?_))
    rw [show mg (mp (mp p9.2 50 2 ((dr : Int) + 1)) 50 3 ((st : Int) + 1)) 50 5 = ((rlR n b).2.length : Int) by rw [mg_mp_n (by omega), mg_mp_n (by omega)]; exact a5] at e4
    have f4 : Fr (fun c x => c = 50 ∧ 2 ≤ x ∧ x ≤ 4) p9.2 m4 := by rw [← e4]; exact Fr_wr (Fr_wr (Fr_mp (by omega)) (by omega)) (by omega)
    have s4 : Sh m4 := Sh_fr s3 f4 (fun c x w => by unfold isP; omega)
    rw [p_0_2 s4, show cI 49 = 48 from rfl]
    have b2 : mg m4 50 2 = (dr : Int) + 1 := by rw [← e4, mg_mp_n (by omega), mg_mp_n (by omega), mg_mp_s]
    have b3 : mg m4 50 3 = (st : Int) + 1 := by rw [← e4, mg_mp_n (by omega), mg_mp_s]
    have b4 : mg m4 50 4 = ((rlR n b).2.length : Int) := by rw [← e4, mg_mp_s]
    clear e4
    refine wI (by decide) (wS ⟨Fr_tr (Fr_sub F3 (fun c x w => by unfold WRl; omega)) (Fr_sub f4 (fun c x w => by unfold WRl; omega)), ?_, ?_, ⟨dr, st, by omega, b2, b3, b4, k1.2.2.2.1, fun i hi => ?_⟩, ?_, ?_⟩)
    · rw [f4.1 _ _ (by omega)]; exact j2
    · show mg m4 48 7 = _
      rw [f4.1 _ _ (by omega)]; exact j3.1
    · show mg m4 dr i = _
      rw [f4.1 _ _ (by omega), j4.1 _ _ (by omega)]; exact k1.2.2.2.2 i hi
    · rw [f4.1 _ _ (by omega)]; exact j3.2.1
    · rw [f4.1 _ _ (by omega)]; exact j3.2.2
end CRU

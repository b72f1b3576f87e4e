/-! the class's may -/
noncomputable def mayR (rl : List Int) (fs : Nat → Int) : Int := if rl = [] then 1 else match exL fs 32 rl [] with
  | some (v :: _) => v
  | _ => 0
noncomputable def fsV (ag jo pa wc wd wt : Nat → Int) (w p : Nat) (d : Int) : Nat → Int := fun i => if i = 0 then ag p else if i = 1 then w32 (d - jo p) else if i = 2 then pa p else if i = 3 then cps wc wd wt (p : Int) d w 30 else d
theorem exS_len {fs : Nat → Int} {D : Nat} {v : Int} {s s' : List Int} (h : exS fs D v s = some s') (hs : s.length ≤ D) : s'.length ≤ D := by
  unfold exS at h
  split at h
  · split at h
    · cases h; show s.length + 1 ≤ D; omega
    · cases h
  · split at h
    · split at h
      · cases h; show s.length + 1 ≤ D; omega
      · cases h
    · split at h
      · split at h
        · cases h; exact hs
        · cases h
      · split at h
        · rename_i r l s0
          cases hj : jnO (-v) l r with
          | none => rw [hj] at h; cases h
          | some x =>
            rw [hj] at h; cases h
            have : s0.length + 1 + 1 ≤ D := hs
            show s0.length + 1 ≤ D; omega
        · cases h
theorem jn_set {sg l r x : Int} (h : jnO sg l r = some x) : sg = 43 ∨ sg = 45 ∨ sg = 60 ∨ sg = 61 ∨ sg = 62 ∨ ((sg = 38 ∨ sg = 124) ∧ (l = 0 ∨ l = 1) ∧ (r = 0 ∨ r = 1)) := by
  unfold jnO at h
  split at h
  · left; assumption
  · split at h
    · right; left; assumption
    · split at h
      · right; right; left; assumption
      · split at h
        · right; right; right; left; assumption
        · split at h
          · right; right; right; right; left; assumption
          · split at h
            · right; right; right; right; right; assumption
            · cases h
theorem and01 {l r : Int} (hl : l = 0 ∨ l = 1) (hr : r = 0 ∨ r = 1) : bAnd l r = (if l = 0 ∨ r = 0 then 0 else 1) ∧ bOr l r = (if l = 0 ∧ r = 0 then 0 else 1) := by
  have a := fun (x y : Nat) (hx : x < 2) (hy : y < 2) => bAnd_n (a := x) (b := y) (by omega) (by omega)
  have o := fun (x y : Nat) (hx : x < 2) (hy : y < 2) => bOr_n (a := x) (b := y) (by omega) (by omega)
  rcases hl with rfl | rfl <;> rcases hr with rfl | rfl
  · exact ⟨a 0 0 (by decide) (by decide), o 0 0 (by decide) (by decide)⟩
  · exact ⟨a 0 1 (by decide) (by decide), o 0 1 (by decide) (by decide)⟩
  · exact ⟨a 1 0 (by decide) (by decide), o 1 0 (by decide) (by decide)⟩
  · exact ⟨a 1 1 (by decide) (by decide), o 1 1 (by decide) (by decide)⟩
theorem jn_join {M : Mm} {sg l r x : Int} (h : jnO sg l r = some x) : f_Rule_join M sg l r = some x := by
  have hc := jn_set h
  unfold f_Rule_join
  rcases hc with rfl | rfl | rfl | rfl | rfl | ⟨hs, hl, hr⟩
  · rw [if_neg (by decide), if_pos rfl]; exact h
  · rw [if_neg (by decide), if_neg (by decide), if_pos rfl]; exact h
  · rw [if_neg (by decide), if_neg (by decide), if_neg (by decide), if_pos rfl]
    have h : some (if l < r then (1 : Int) else 0) = some x := h
    rw [← h]
    by_cases c : l < r
    · rw [if_neg (by omega), if_pos c]
    · rw [if_pos (by omega), if_neg c]
  · rw [if_neg (by decide), if_neg (by decide), if_neg (by decide), if_neg (by decide), if_pos rfl]
    have h : some (if l = r then (1 : Int) else 0) = some x := h
    rw [← h]
    by_cases c : l = r
    · rw [if_neg (by omega), if_pos c]
    · rw [if_pos c, if_neg c]
  · rw [if_neg (by decide), if_neg (by decide), if_neg (by decide), if_neg (by decide), if_neg (by decide), if_pos rfl]
    have h : some (if r < l then (1 : Int) else 0) = some x := h
    rw [← h]
    by_cases c : r < l
    · rw [if_neg (by omega), if_pos c]
    · rw [if_pos (by omega), if_neg c]
  · obtain ⟨ha, hb⟩ := and01 hl hr
    unfold jnO at h
    rw [if_neg (by omega), if_neg (by omega), if_neg (by omega), if_neg (by omega), if_neg (by omega), if_pos ⟨hs, hl, hr⟩] at h
    rcases hs with rfl | rfl
    · rw [if_pos rfl] at h
      rw [if_pos rfl, ha]; exact h
    · rw [if_neg (by decide)] at h
      rw [if_neg (by decide), if_neg (by decide), if_neg (by decide), if_neg (by decide), if_neg (by decide), if_neg (by decide), hb]; exact h
def KBs (s : List Int) (M : Mm) : Prop := mg M 50 6 = (s.length : Int) ∧ ∀ j, j < s.length → mg M 52 j = s.reverse.getD j 0
def WKb (c x : Nat) : Prop := (c = 50 ∧ x = 6) ∨ c = 52
section CMY
variable {M : Mm} {s s' : List Int} {fs : Nat → Int}
theorem WKb_p {c x : Nat} (h : WKb c x) : ¬ isP c x := by unfold WKb at h; unfold isP; omega
theorem k_push (hs : Sh M) (h : KBs s M) (hl : s.length < 32) (x : Int) : wp (f_Rule_push M 51 x) (fun M' => KBs (x :: s) M' ∧ Fr WKb M M') := by
  unfold f_Rule_push
  rw [show cI 51 = 50 from rfl, h.1, p_50_1 hs, show cI 53 = 52 from rfl, n_52 hs, Int.toNat_natCast]
  refine wE (by omega) (wI (by decide) (wI (by omega) (wL ?_)))
  rw [show mg (mp M 52 s.length x) 50 6 = (s.length : Int) by rw [mg_mp_n (by omega)]; exact h.1, w32_s (by omega) (by omega)]
  refine wL (wS ⟨⟨?_, fun j hj => ?_⟩, Fr_wr (Fr_mp (by unfold WKb; omega)) (by unfold WKb; omega)⟩)
  · rw [mg_mp_s]; show _ = ((s.length + 1 : Nat) : Int); omega
  · have hj : j < s.length + 1 := hj
    rw [mg_mp_n (by omega)]
    by_cases ej : j = s.length
    · rw [ej, mg_mp_s, rv_top]
    · rw [mg_mp_n (by omega), rv_old (by omega)]; exact h.2 j (by omega)
theorem k_pop {x : Int} (hs : Sh M) (h : KBs (x :: s) M) (hl : s.length < 32) : wp (f_Rule_pop M 51) (fun q => q.1 = x ∧ KBs s q.2 ∧ Fr WKb M q.2) := by
  have hl2 : ((x :: s).length : Int) = (s.length : Int) + 1 := by show ((s.length + 1 : Nat) : Int) = _; omega
  unfold f_Rule_pop
  rw [show cI 51 = 50 from rfl, h.1, hl2, w32_s (by omega) (by omega), show (s.length : Int) + 1 - 1 = (s.length : Int) by omega]
  refine wI (by omega) (wL ?_)
  have s1 : Sh (mp M 50 6 (s.length : Int)) := Sh_mp hs (by unfold isP; omega)
  rw [p_50_1 s1, show cI 53 = 52 from rfl, n_52 s1, show mg (mp M 50 6 (s.length : Int)) 50 6 = (s.length : Int) by rw [mg_mp_s], Int.toNat_natCast]
  refine wI (by decide) (wI (by omega) (wS ⟨?_, ⟨by rw [mg_mp_s], fun j hj => ?_⟩, Fr_mp (by unfold WKb; omega)⟩))
  · show mg (mp M 50 6 (s.length : Int)) 52 s.length = x
    rw [mg_mp_n (by omega), h.2 s.length (Nat.lt_succ_self _), rv_top]
  · rw [mg_mp_n (by omega), h.2 j (Nat.lt_succ_of_lt hj), rv_old hj]
theorem k_work (hs : Sh M) (h : KBs s M) (hl : s.length ≤ 32) (hf : ∀ i, i < 5 → mg M 51 i = fs i) {v : Int} (he : exS fs 32 v s = some s') : wp (f_Rule_work M 51 v) (fun M' => KBs s' M' ∧ Fr WKb M M') := by
  unfold f_Rule_work j_Rule_work_52
  unfold exS at he
  by_cases c0 : 0 ≤ v
  · rw [if_pos c0] at he
    refine wE (by omega) ?_
    split at he
    · cases he
      exact wK (k_push hs h (by omega) v) (fun m g => wS g)
    · cases he
  · rw [if_neg c0] at he
    refine wI (by omega) ?_
    by_cases c5 : -5 ≤ v
    · rw [if_pos c5] at he
      refine wE (by omega) ?_
      split at he
      · cases he
        rw [show cI 51 = 50 from rfl, p_50_0 hs, show cI 52 = 51 from rfl, n_51 hs, w32_s (by omega) (by omega), hf _ (by omega)]
        exact wI (by decide) (wI (by omega) (wK (k_push hs h (by omega) _) (fun m g => wS g)))
      · cases he
    · rw [if_neg c5] at he
      refine wI (by omega) ?_
      by_cases c33 : v = -33
      · rw [if_pos c33] at he
        refine wE (by omega) ?_
        cases s with
        | nil => cases he
        | cons x s =>
          cases he
          have hl : s.length + 1 ≤ 32 := hl
          refine wK (k_pop hs h (by omega)) (fun q g => ?_)
          obtain ⟨g1, g2, g3⟩ := g
          have s1 : Sh q.2 := Sh_fr hs g3 (fun c x w => WKb_p w)
          rw [g1]
          by_cases cx : x = 0
          · rw [if_pos cx]
            exact wE (by omega) (wK (k_push s1 g2 (by omega) 1) (fun m g => wS ⟨g.1, Fr_tr g3 g.2⟩))
          · rw [if_neg cx]
            exact wI cx (wK (k_push s1 g2 (by omega) 0) (fun m g => wS ⟨g.1, Fr_tr g3 g.2⟩))
      · rw [if_neg c33] at he
        refine wI c33 ?_
        match s, he, h, hl with
        | [], he, _, _ => cases he
        | [_], he, _, _ => cases he
        | r :: l :: s, he, h, hl =>
          have he : (jnO (-v) l r).map (fun x => x :: s) = some s' := he
          have hl : s.length + 1 + 1 ≤ 32 := hl
          cases hj : jnO (-v) l r with
          | none => rw [hj] at he; cases he
          | some x =>
            rw [hj] at he
            cases he
            have hset := jn_set hj
            refine wK (k_pop hs h (by show s.length + 1 < 32; omega)) (fun q g => ?_)
            obtain ⟨g1, g2, g3⟩ := g
            have s1 : Sh q.2 := Sh_fr hs g3 (fun c x w => WKb_p w)
            refine wK (k_pop s1 g2 (by omega)) (fun q2 g' => ?_)
            obtain ⟨k1, k2, k3⟩ := g'
            have s2 : Sh q2.2 := Sh_fr s1 k3 (fun c x w => WKb_p w)
            rw [g1, k1, w32_s (x := -v) (by omega) (by omega), jn_join hj, Option.bind_some]
            exact wK (k_push s2 k2 (by omega) x) (fun m g => wS ⟨g.1, Fr_tr g3 (Fr_tr k3 g.2)⟩)
theorem drop_c {rl : List Int} {i : Nat} (h : i < rl.length) : rl.drop i = rl.getD i 0 :: rl.drop (i + 1) := by
  rw [List.drop_eq_getElem_cons h, List.getD_eq_getElem?_getD, List.getElem?_eq_getElem h]; rfl
theorem exL_step {rl : List Int} {i : Nat} (h : i < rl.length) {z : List Int} (he : exL fs 32 (rl.drop i) s = some z) : ∃ s', exS fs 32 (rl.getD i 0) s = some s' ∧ exL fs 32 (rl.drop (i + 1)) s' = some z := by
  rw [drop_c h] at he
  have he : (exS fs 32 (rl.getD i 0) s).bind (exL fs 32 (rl.drop (i + 1))) = some z := he
  cases hx : exS fs 32 (rl.getD i 0) s with
  | none => rw [hx] at he; cases he
  | some s' => rw [hx] at he; exact ⟨s', rfl, he⟩
theorem k_allows (hs : Sh M) {rl : List Int} (hr : CBr rl M) (hok : OKr rl) (hf : ∀ i, i < 5 → mg M 51 i = fs i) : wp (f_Rule_allows M 51) (fun q => q.1 = mayR rl fs ∧ (mayR rl fs = 0 ∨ mayR rl fs = 1) ∧ Fr WKb M q.2) := by
  obtain ⟨st, dr, hsd, h2, h3, h4, h5, h6⟩ := hr
  have hst : ml M st = 800 := by rcases hsd with e | e <;> rw [e.1]; exact n_53 hs; exact n_54 hs
  unfold f_Rule_allows
  rw [show cI 51 = 50 from rfl, h4]
  by_cases c0 : rl = []
  · subst c0
    exact wE (fun e => e rfl) (wS ⟨rfl, Or.inr rfl, Fr_rf⟩)
  · have hS := hok.2.resolve_left c0
    obtain ⟨v, hv, he⟩ := hS fs 32 [] (by decide)
    have eR : mayR rl fs = v := by unfold mayR; rw [if_neg c0, he]
    have hlen : rl.length ≠ 0 := fun e => c0 (List.length_eq_zero_iff.mp e)
    rw [eR]
    refine wI (by omega) (wL ?_)
    have f0 : Fr WKb M (mp M 50 6 0) := Fr_mp (by unfold WKb; omega)
    refine wK (wp_loop (Q := fun m => KBs [v] m ∧ Fr WKb M m) (fun (i : Nat) (t : Int × Mm) => t.1 = (i : Int) ∧ i ≤ rl.length ∧ Fr WKb M t.2 ∧ ∃ s, KBs s t.2 ∧ s.length ≤ 32 ∧ exL fs 32 (rl.drop i) s = some [v]) rl.length (by omega) ⟨rfl, Nat.zero_le _, f0, [], ⟨by rw [mg_mp_s]; rfl, fun j hj => absurd hj (Nat.not_lt_zero _)⟩, by decide, he⟩ ?_) (fun m g => ?_)
    · rintro i ⟨z, m⟩ hi ⟨hz, hil, hf1, s, hk, hsl, hex⟩
      have hz : z = (i : Int) := hz
      have hf1 : Fr WKb M m := hf1
      have hk : KBs s m := hk
      subst hz
      have s1 : Sh m := Sh_fr hs hf1 (fun c x w => WKb_p w)
      unfold l_Rule_allows_16
      simp only []
      rw [show cI 51 = 50 from rfl, hf1.1 50 4 (by unfold WKb; omega), h4]
      refine wC (fun c => wSr ?_) (fun c => ?_)
      · have : i = rl.length := by omega
        rw [this, List.drop_length] at hex
        cases hex
        exact ⟨hk, hf1⟩
      · have hil2 : i < rl.length := by omega
        rw [hf1.1 50 2 (by unfold WKb; omega), h2, cI_s, hf1.2.1, hst, Int.toNat_natCast, hf1.1 st i (by unfold WKb; omega), h6 i hil2, w32_s (by omega) (by omega)]
        obtain ⟨s', e1, e2⟩ := exL_step hil2 hex
        refine wI (by omega) (wI (by omega) (wK (k_work s1 hk hsl (fun j hj => by rw [hf1.1 51 j (by unfold WKb; omega)]; exact hf j hj) e1) (fun m2 g2 => wL (wSl ⟨hil2, by show (i : Int) + 1 = _; omega, by omega, Fr_tr hf1 g2.2, s', g2.1, exS_len e1 hsl, e2⟩))))
    · have s1 : Sh m := Sh_fr hs g.2 (fun c x w => WKb_p w)
      refine wK (k_pop s1 g.1 (by decide)) (fun q g2 => ?_)
      rw [g2.1]
      refine wC (fun c => wS ⟨c.symm, hv, Fr_tr g.2 g2.2.2⟩) (fun c => wS ⟨?_, hv, Fr_tr g.2 g2.2.2⟩)
      rcases hv with e | e
      · exact absurd e c
      · exact e.symm
end CMY

/-! THE LIBRARY's text, as it is read -/
def isI : Ts → Prop
  | .inl _ => True
  | .inr _ => False
def zNum (n : Nat) (b : Nat → Int) (lo hi : Int) (σ : Ts) : Ts := zN n b 2 (if zK n b 2 σ = -2 then (if lo ≤ zV n b σ ∧ zV n b σ ≤ hi then σ else zF n b 3 σ) else zF n b 1 σ)
def zWd (n : Nat) (b : Nat → Int) (σ : Ts) : Bool := zW n b 2 (txs 0) σ || zW n b 2 (txs 1) σ || zW n b 2 (txs 2) σ || zW n b 2 (txs 3) σ
def hasN (m : Nat) (lb : Nat → PcD) (l : List Int) : Bool := (List.range m).any (fun o => decide (pNm (lb o) = l))
def zNam (n : Nat) (b : Nat → Int) (m : Nat) (lb : Nat → PcD) (σ : Ts) : Ts := zN n b 2 (if zK n b 2 σ = -3 ∧ zWd n b σ = false then (if hasN m lb (zL n b σ) = true then zF n b 2 σ else σ) else zF n b 1 σ)
def dIns (D : PcD) (v : Nat) : PcD := if pMy D (pPt D - 1) < 4 then (pNm D, pMi D, pLi D, pKe D, pPt D, pMu D, up (pMy D) (pPt D - 1) (pMy D (pPt D - 1) + 1), up2 (pWh D) (pPt D - 1) (pMy D (pPt D - 1)) v) else D
def dAdd (D : PcD) (must : Bool) : PcD := (pNm D, pMi D, pLi D, pKe D, pPt D + 1, (if must then pMu D + 2 ^ pPt D else pMu D), pMy D, pWh D)
def hasW (D : PcD) (v : Int) : Bool := (List.range (pMy D (pPt D - 1))).any (fun j => decide ((pWh D (pPt D - 1) j : Int) = v))
def spIns (n : Nat) (b : Nat → Int) (q : Ts × PcD) : Ts × PcD := (zNum n b 0 9 (if zK n b 2 q.1 = -2 ∧ hasW q.2 (zV n b q.1) = true then zF n b 3 q.1 else q.1), dIns q.2 (zV n b q.1).toNat)
def spOr (n : Nat) (b : Nat → Int) : Nat → Nat → Ts × PcD → Ts × PcD
  | 0, _, q => q
  | f + 1, c, q => if zW n b 2 (txs 3) q.1 = true then spOr n b f (c + 1) (spIns n b (zN n b 2 (if c = 4 then zF n b 4 q.1 else q.1), q.2)) else q
def spMs (n : Nat) (b : Nat → Int) (σ : Ts) : Ts := if zW n b 2 (txs 1) σ = true ∨ zW n b 2 (txs 2) σ = true then σ else zF n b 1 σ
def spPart (n : Nat) (b : Nat → Int) (q : Ts × PcD) : Ts × PcD := if pPt q.2 < 10 then spOr n b 4 1 (spIns n b (zN n b 2 (spMs n b (zN n b 2 q.1)), dAdd q.2 (zW n b 2 (txs 1) (zN n b 2 q.1)))) else (zF n b 4 q.1, q.2)
def spParts (n : Nat) (b : Nat → Int) : Nat → Ts × PcD → Ts × PcD
  | 0, q => q
  | f + 1, q => if zK n b 2 q.1 = 44 then spParts n b f (spPart n b q) else q
def zP1 (n : Nat) (b : Nat → Int) (m : Nat) (lb : Nat → PcD) (σ : Ts) : Ts := zTake n b 2 58 (zNam n b m lb (zN n b 2 σ))
def zP2 (n : Nat) (b : Nat → Int) (m : Nat) (lb : Nat → PcD) (σ : Ts) : Ts := zNum n b 1 60 (zP1 n b m lb σ)
def zP3 (n : Nat) (b : Nat → Int) (m : Nat) (lb : Nat → PcD) (σ : Ts) : Ts := zNum n b 0 9 (zP2 n b m lb σ)
def zP4 (n : Nat) (b : Nat → Int) (m : Nat) (lb : Nat → PcD) (σ : Ts) : Ts := zNum n b 0 11 (zP3 n b m lb σ)
def dP (n : Nat) (b : Nat → Int) (m : Nat) (lb : Nat → PcD) (σ : Ts) : PcD := (zL n b (zN n b 2 σ), zV n b (zP1 n b m lb σ), zV n b (zP2 n b m lb σ), zV n b (zP3 n b m lb σ), 0, 0, fun _ => 0, fun _ _ => 0)
def spPiece (n : Nat) (b : Nat → Int) (m : Nat) (lb : Nat → PcD) (σ : Ts) : Ts × PcD := (zTake n b 2 59 (spParts n b 800 (zP4 n b m lb σ, dP n b m lb σ)).1, (spParts n b 800 (zP4 n b m lb σ, dP n b m lb σ)).2)
def spText (n : Nat) (b : Nat → Int) : Nat → Ts × Nat × (Nat → PcD) → Ts × Nat × (Nat → PcD)
  | 0, q => q
  | f + 1, q => if zW n b 2 (txs 0) q.1 = true then (if q.2.1 < 10 then spText n b f ((spPiece n b q.2.1 q.2.2 q.1).1, q.2.1 + 1, up q.2.2 q.2.1 (spPiece n b q.2.1 q.2.2 q.1).2) else spText n b f (zF n b 4 q.1, q.2.1, q.2.2)) else q
section SPX
variable {n : Nat} {b : Nat → Int} {dg : Nat} {σ : Ts}
theorem isI_N : isI (zN n b dg σ) ↔ isI σ := by cases σ <;> exact Iff.rfl
theorem isI_F {k : Int} : ¬ isI (zF n b k σ) := by cases σ <;> exact fun h => h
theorem zF_inr {k : Int} (h : ¬ isI σ) : zF n b k σ = σ := by
  cases σ with
  | inl q => exact absurd trivial h
  | inr e => rfl
theorem zN_inr (h : ¬ isI σ) : zN n b dg σ = σ := by
  cases σ with
  | inl q => exact absurd trivial h
  | inr e => rfl
theorem zK_inr (h : ¬ isI σ) : zK n b dg σ = -4 := by
  cases σ with
  | inl q => exact absurd trivial h
  | inr e => rfl
theorem zW_inr {l : List Int} (h : ¬ isI σ) : zW n b dg l σ = false := by
  cases σ with
  | inl q => exact absurd trivial h
  | inr e => rfl
theorem isI_K {x : Int} (h : zK n b dg σ = x) (hx : x ≠ -4) : isI σ := by
  cases σ with
  | inl q => trivial
  | inr e => exact absurd h.symm hx
theorem isI_W {l : List Int} (h : zW n b dg l σ = true) : isI σ := by
  cases σ with
  | inl q => trivial
  | inr e => cases h
theorem zNum_i {lo hi : Int} (h : isI (zNum n b lo hi σ)) : zK n b 2 σ = -2 ∧ lo ≤ zV n b σ ∧ zV n b σ ≤ hi ∧ isI σ ∧ zNum n b lo hi σ = zN n b 2 σ := by
  unfold zNum at h ⊢
  by_cases c : zK n b 2 σ = -2
  · by_cases c2 : lo ≤ zV n b σ ∧ zV n b σ ≤ hi
    · rw [if_pos c, if_pos c2]; exact ⟨c, c2.1, c2.2, isI_K c (by decide), rfl⟩
    · rw [if_pos c, if_neg c2, isI_N] at h; exact absurd h isI_F
  · rw [if_neg c, isI_N] at h; exact absurd h isI_F
theorem zNum_inr {lo hi : Int} (h : ¬ isI σ) : zNum n b lo hi σ = σ := by
  unfold zNum
  rw [zK_inr h, if_neg (by decide), zF_inr h, zN_inr h]
theorem zTake_i {s : Int} (hs : s ≠ -4) (h : isI (zTake n b dg s σ)) : zK n b dg σ = s ∧ isI σ ∧ zTake n b dg s σ = zN n b dg σ := by
  unfold zTake at h ⊢
  by_cases c : zK n b dg σ = s
  · rw [if_pos c]; exact ⟨c, isI_K c hs, rfl⟩
  · rw [if_neg c, isI_N] at h; exact absurd h isI_F
theorem zTake_inr {s : Int} (hs : s ≠ -4) (h : ¬ isI σ) : zTake n b dg s σ = σ := by
  unfold zTake
  rw [zK_inr h, if_neg (fun e => hs e.symm), zF_inr h, zN_inr h]
theorem zNam_i {m : Nat} {lb : Nat → PcD} (h : isI (zNam n b m lb σ)) : zK n b 2 σ = -3 ∧ zWd n b σ = false ∧ hasN m lb (zL n b σ) = false ∧ isI σ ∧ zNam n b m lb σ = zN n b 2 σ := by
  unfold zNam at h ⊢
  by_cases c : zK n b 2 σ = -3 ∧ zWd n b σ = false
  · rw [if_pos c] at h ⊢
    cases c2 : hasN m lb (zL n b σ) with
    | false => exact ⟨c.1, c.2, rfl, isI_K c.1 (by decide), by rw [if_neg (by decide)]⟩
    | true => rw [c2, if_pos rfl, isI_N] at h; exact absurd h isI_F
  · rw [if_neg c, isI_N] at h; exact absurd h isI_F
theorem zNam_inr {m : Nat} {lb : Nat → PcD} (h : ¬ isI σ) : zNam n b m lb σ = σ := by
  unfold zNam
  rw [zK_inr h, if_neg (fun e => absurd e.1 (by decide)), zF_inr h, zN_inr h]
theorem spIns_i {q : Ts × PcD} (h : isI (spIns n b q).1) : isI q.1 ∧ zK n b 2 q.1 = -2 ∧ 0 ≤ zV n b q.1 ∧ zV n b q.1 ≤ 9 ∧ hasW q.2 (zV n b q.1) = false ∧ spIns n b q = (zN n b 2 q.1, dIns q.2 (zV n b q.1).toNat) := by
  unfold spIns at h ⊢
  by_cases c : zK n b 2 q.1 = -2 ∧ hasW q.2 (zV n b q.1) = true
  · rw [if_pos c] at h
    exact absurd (zNum_i h).2.2.2.1 isI_F
  · rw [if_neg c] at h ⊢
    obtain ⟨h1, h2, h3, h4, h5⟩ := zNum_i h
    refine ⟨h4, h1, h2, h3, ?_, by rw [h5]⟩
    cases e : hasW q.2 (zV n b q.1) with
    | false => rfl
    | true => exact absurd ⟨h1, e⟩ c
theorem spIns_inr {q : Ts × PcD} (h : ¬ isI q.1) : (spIns n b q).1 = q.1 := by
  unfold spIns
  rw [zK_inr h, if_neg (fun e => absurd e.1 (by decide))]
  exact zNum_inr h
theorem spOr_inr {f c : Nat} {q : Ts × PcD} (h : ¬ isI q.1) : spOr n b f c q = q := by
  cases f with
  | zero => rfl
  | succ f =>
    show (if zW n b 2 (txs 3) q.1 = true then _ else q) = q
    rw [zW_inr h, if_neg (by decide)]
theorem spParts_inr {f : Nat} {q : Ts × PcD} (h : ¬ isI q.1) : spParts n b f q = q := by
  cases f with
  | zero => rfl
  | succ f =>
    show (if zK n b 2 q.1 = 44 then _ else q) = q
    rw [zK_inr h, if_neg (by decide)]
theorem spText_inr {f : Nat} {q : Ts × Nat × (Nat → PcD)} (h : ¬ isI q.1) : spText n b f q = q := by
  cases f with
  | zero => rfl
  | succ f =>
    show (if zW n b 2 (txs 0) q.1 = true then _ else q) = q
    rw [zW_inr h, if_neg (by decide)]
end SPX
/-! a PIECE as far as it is read -/
def OKf (D : PcD) : Prop := pPt D ≤ 10 ∧ pMu D < 2 ^ pPt D ∧ (∀ i, pMy D i ≤ 4) ∧ (∀ i, pPt D ≤ i → pMy D i = 0)
def OKv (D : PcD) : Prop := ∀ i, i < pPt D → ∀ j, j < pMy D i → pWh D i j < 10
theorem dI_t {D : PcD} {v : Nat} (h : pMy D (pPt D - 1) < 4) : dIns D v = (pNm D, pMi D, pLi D, pKe D, pPt D, pMu D, up (pMy D) (pPt D - 1) (pMy D (pPt D - 1) + 1), up2 (pWh D) (pPt D - 1) (pMy D (pPt D - 1)) v) := if_pos h
theorem dI_f {D : PcD} {v : Nat} (h : ¬ pMy D (pPt D - 1) < 4) : dIns D v = D := if_neg h
theorem dI_ok {D : PcD} {v : Nat} (ho : OKf D) (h1 : 1 ≤ pPt D) : OKf (dIns D v) ∧ pPt (dIns D v) = pPt D ∧ pNm (dIns D v) = pNm D ∧ pMi (dIns D v) = pMi D ∧ pLi (dIns D v) = pLi D ∧ pKe (dIns D v) = pKe D ∧ pMu (dIns D v) = pMu D := by
  by_cases c : pMy D (pPt D - 1) < 4
  · rw [dI_t c]
    refine ⟨⟨ho.1, ho.2.1, fun i => ?_, fun i hi => ?_⟩, rfl, rfl, rfl, rfl, rfl, rfl⟩
    · show up (pMy D) (pPt D - 1) (pMy D (pPt D - 1) + 1) i ≤ 4
      by_cases e : i = pPt D - 1
      · rw [e, up_s]; omega
      · rw [up_n e]; exact ho.2.2.1 i
    · show up (pMy D) (pPt D - 1) (pMy D (pPt D - 1) + 1) i = 0
      have hi : pPt D ≤ i := hi
      rw [up_n (by omega)]; exact ho.2.2.2 i hi
  · rw [dI_f c]; exact ⟨ho, rfl, rfl, rfl, rfl, rfl, rfl⟩
theorem dI_v {D : PcD} {v : Nat} (hv : OKv D) (h : v < 10) : OKv (dIns D v) := by
  by_cases c : pMy D (pPt D - 1) < 4
  · rw [dI_t c]
    intro i hi j hj
    have hi : i < pPt D := hi
    have hj : j < up (pMy D) (pPt D - 1) (pMy D (pPt D - 1) + 1) i := hj
    show up2 (pWh D) (pPt D - 1) (pMy D (pPt D - 1)) v i j < 10
    unfold up2
    by_cases e : i = pPt D - 1 ∧ j = pMy D (pPt D - 1)
    · rw [if_pos e]; exact h
    · rw [if_neg e]
      refine hv i hi j ?_
      by_cases e2 : i = pPt D - 1
      · rw [e2, up_s] at hj; rw [e2]; omega
      · rw [up_n e2] at hj; exact hj
  · rw [dI_f c]; exact hv
theorem dA_ok {D : PcD} {m : Bool} (ho : OKf D) (h : pPt D < 10) : OKf (dAdd D m) := by
  refine ⟨h, ?_, ho.2.2.1, fun i hi => ho.2.2.2 i (by have hi : pPt D + 1 ≤ i := hi; omega)⟩
  have h2 := ho.2.1
  show (if m then pMu D + 2 ^ pPt D else pMu D) < 2 ^ (pPt D + 1)
  rw [Nat.pow_succ]
  split <;> omega
theorem dA_v {D : PcD} {m : Bool} (ho : OKf D) (hv : OKv D) : OKv (dAdd D m) := fun i hi j hj => by
  have hj : j < pMy D i := hj
  have hi : i < pPt D + 1 := hi
  rcases Nat.lt_or_ge i (pPt D) with c | c
  · exact hv i c j hj
  · have := ho.2.2.2 i c; omega

/-! what a mirror comes to -/
def wp {α : Type} (x : Option α) (P : α → Prop) : Prop := ∃ a, x = some a ∧ P a
theorem wS {α : Type} {a : α} {P : α → Prop} (h : P a) : wp (some a) P := ⟨a, rfl, h⟩
theorem wL {α β : Type} {e : α} {k : α → Option β} {P : β → Prop} (h : wp (k e) P) : wp (lt e k) P := h
theorem wB {α β : Type} {x : Option α} {k : α → Option β} {P : β → Prop} (h : wp x (fun a => wp (k a) P)) : wp (x.bind k) P := by
  obtain ⟨a, rfl, b, h1, h2⟩ := h
  exact ⟨b, h1, h2⟩
theorem wI {α : Type} {c : Prop} [Decidable c] {x y : Option α} {P : α → Prop} (hc : c) (h : wp x P) : wp (if c then x else y) P := by rw [if_pos hc]; exact h
theorem wE {α : Type} {c : Prop} [Decidable c] {x y : Option α} {P : α → Prop} (hc : ¬ c) (h : wp y P) : wp (if c then x else y) P := by rw [if_neg hc]; exact h
theorem wC {α : Type} {c : Prop} [Decidable c] {x y : Option α} {P : α → Prop} (h1 : c → wp x P) (h2 : ¬ c → wp y P) : wp (if c then x else y) P := by
  by_cases hc : c
  · rw [if_pos hc]; exact h1 hc
  · rw [if_neg hc]; exact h2 hc
theorem wM {α : Type} {x : Option α} {P Q : α → Prop} (h : wp x P) (hi : ∀ a, P a → Q a) : wp x Q := by
  obtain ⟨a, h1, h2⟩ := h
  exact ⟨a, h1, hi a h2⟩
/-- a call whose answer is known -/
theorem wX {α β : Type} {x : Option α} {a : α} {k : α → Option β} {P : β → Prop} (hx : x = some a) (h : wp (k a) P) : wp (x.bind k) P := by rw [hx]; exact h
/-- a call with its contract -/
theorem wK {α β : Type} {x : Option α} {Q : α → Prop} {k : α → Option β} {P : β → Prop} (hx : wp x Q) (h : ∀ a, Q a → wp (k a) P) : wp (x.bind k) P := by
  obtain ⟨a, h1, h2⟩ := hx
  rw [h1]; exact h a h2
theorem w_eq {α : Type} {x : Option α} {a : α} (h : wp x (fun b => b = a)) : x = some a := by
  obtain ⟨b, h1, h2⟩ := h
  rw [h1, h2]
theorem eq_w {α : Type} {x : Option α} {a : α} {P : α → Prop} (h : x = some a) (hp : P a) : wp x P := ⟨a, h, hp⟩
theorem wp_loop' {S R : Type} {step : S → Option (S ⊕ R)} (I : Nat → S → Prop) (N : Nat) {Q : R → Prop} (hs : ∀ j s, j ≤ N → I j s → wp (step s) (Sum.elim (fun s' => j < N ∧ I (j + 1) s') Q)) : ∀ n j s, N < n + j → j ≤ N → I j s → wp (loopN step n s) Q
  | 0, j, s, hn, hj, hi => by omega
  | n + 1, j, s, hn, hj, hi => by
    obtain ⟨x, hx, hq⟩ := hs j s hj hi
    unfold loopN
    rw [hx]
    cases x with
    | inl s' => exact wp_loop' I N hs n (j + 1) s' (by omega) hq.1 hq.2
    | inr t => exact ⟨t, rfl, hq⟩
/-- a loop: what holds in the j-th round, at most N rounds -/
theorem wp_loop {S R : Type} {step : S → Option (S ⊕ R)} (I : Nat → S → Prop) (N : Nat) {Q : R → Prop} {s : S} (hN : N < 1000000) (h0 : I 0 s) (hs : ∀ j s, j ≤ N → I j s → wp (step s) (Sum.elim (fun s' => j < N ∧ I (j + 1) s') Q)) : wp (loopN step FU s) Q :=
  wp_loop' I N hs FU 0 s (by rw [FU_eq]; omega) (Nat.zero_le _) h0
/-- a loop that counts up: its states are known -/
theorem loop_for {S R : Type} {step : S → Option (S ⊕ R)} (st : Nat → S) (N : Nat) {t : R} {s : S} (hN : N < 1000000) (h0 : s = st 0) (h1 : ∀ j, j < N → step (st j) = some (.inl (st (j + 1)))) (h2 : step (st N) = some (.inr t)) : loopN step FU s = some t := by
  refine w_eq (wp_loop (fun j s => s = st j) N hN h0 (fun j s hj e => ?_))
  subst e
  rcases Nat.lt_or_ge j N with h | h
  · rw [h1 j h]; exact wS ⟨h, rfl⟩
  · have : j = N := by omega
    subst this
    rw [h2]; exact wS rfl
/-- a loop that counts up, and keeps something -/
theorem loop_fori {S R : Type} {step : S → Option (S ⊕ R)} (I : Nat → S → Prop) (N : Nat) {Q : R → Prop} {s : S} (hN : N < 1000000) (h0 : I 0 s) (h1 : ∀ j s, j < N → I j s → ∃ s', step s = some (.inl s') ∧ I (j + 1) s') (h2 : ∀ s, I N s → ∃ t, step s = some (.inr t) ∧ Q t) : wp (loopN step FU s) Q := by
  refine wp_loop I N hN h0 (fun j s hj hi => ?_)
  rcases Nat.lt_or_ge j N with h | h
  · obtain ⟨s', e, hi'⟩ := h1 j s h hi
    rw [e]; exact wS ⟨h, hi'⟩
  · have : j = N := by omega
    subst this
    obtain ⟨t, e, hq⟩ := h2 s hi
    rw [e]; exact wS hq
theorem eq_l {S R : Type} {x : Option (S ⊕ R)} (s : S) {P : S → Prop} {Q : R → Prop} (h : x = some (.inl s)) (hp : P s) : wp x (Sum.elim P Q) := ⟨.inl s, h, hp⟩
theorem eq_r {S R : Type} {x : Option (S ⊕ R)} (t : R) {P : S → Prop} {Q : R → Prop} (h : x = some (.inr t)) (hq : Q t) : wp x (Sum.elim P Q) := ⟨.inr t, h, hq⟩
theorem wSl {S R : Type} {s : S} {P : S → Prop} {Q : R → Prop} (hp : P s) : wp (some (.inl s) : Option (S ⊕ R)) (Sum.elim P Q) := ⟨.inl s, rfl, hp⟩
theorem wSr {S R : Type} {t : R} {P : S → Prop} {Q : R → Prop} (hq : Q t) : wp (some (.inr t) : Option (S ⊕ R)) (Sum.elim P Q) := ⟨.inr t, rfl, hq⟩
/-! what a piece of the run may write -/
def Fr (W : Nat → Nat → Prop) (M M' : Mm) : Prop := (∀ c k, ¬ W c k → mg M' c k = mg M c k) ∧ (∀ c, ml M' c = ml M c) ∧ mN M' = mN M ∧ mZ M' = mZ M
theorem Fr_rf {W : Nat → Nat → Prop} {M : Mm} : Fr W M M := ⟨fun _ _ _ => rfl, fun _ => rfl, rfl, rfl⟩
theorem Fr_tr {W : Nat → Nat → Prop} {M M1 M2 : Mm} (h1 : Fr W M M1) (h2 : Fr W M1 M2) : Fr W M M2 := ⟨fun c k hw => (h2.1 c k hw).trans (h1.1 c k hw), fun c => (h2.2.1 c).trans (h1.2.1 c), h2.2.2.1.trans h1.2.2.1, h2.2.2.2.trans h1.2.2.2⟩
theorem Fr_mp {W : Nat → Nat → Prop} {M : Mm} {c k : Nat} {v : Int} (h : W c k) : Fr W M (mp M c k v) := ⟨fun c' k' hw => mg_mp_n (fun e => hw (by rw [e.1, e.2]; exact h)), fun _ => rfl, rfl, rfl⟩
theorem Fr_wr {W : Nat → Nat → Prop} {M M1 : Mm} {c k : Nat} {v : Int} (h1 : Fr W M M1) (h : W c k) : Fr W M (mp M1 c k v) := Fr_tr h1 (Fr_mp h)
theorem Fr_sub {W V : Nat → Nat → Prop} {M M' : Mm} (h : Fr W M M') (hs : ∀ c k, W c k → V c k) : Fr V M M' := ⟨fun c k hv => h.1 c k (fun hw => hv (hs c k hw)), h.2⟩
/-! what never changes: where the rows lie, how long they are -/
def isP (c k : Nat) : Prop := (c = 0 ∧ k < 8) ∨ (c = 1 ∧ k < 4) ∨ (c = 6 ∧ k = 0) ∨ (c = 7 ∧ k < 10) ∨ (8 ≤ c ∧ c < 48 ∧ c % 4 = 0 ∧ k < 3) ∨ (c = 48 ∧ k = 0) ∨ (c = 50 ∧ k < 2) ∨ (c = 55 ∧ k < 5) ∨ (c = 61 ∧ k < 3) ∨ (c = 65 ∧ k < 6) ∨ (c = 72 ∧ (k = 0 ∨ (3 ≤ k ∧ k ≤ 6))) ∨ (c = 79 ∧ ((2 ≤ k ∧ k ≤ 6) ∨ (8 ≤ k ∧ k ≤ 17) ∨ (20 ≤ k ∧ k ≤ 23) ∨ (25 ≤ k ∧ k ≤ 28) ∨ k = 39 ∨ k = 40 ∨ k = 42 ∨ k = 43 ∨ k = 45 ∨ k = 46))
def pvT : List (Nat × List Int) := [(0, [2, 7, 49, 51, 56, 62, 66, 73]), (1, [3, 4, 5, 6]), (6, [8]), (48, [50]), (50, [52, 53]), (55, [57, 58, 59, 60, 61]), (61, [63, 64, 65]), (65, [67, 68, 69, 70, 71, 72]), (72, [74, 0, 0, 75, 76, 77, 78]), (79, [0, 0, 81, 82, 83, 84, 85, 0, 86, 87, 88, 89, 90, 91, 92, 93, 94, 95, 0, 0, 96, 97, 98, 99, 0, 100, 101, 102, 103, 0, 0, 0, 0, 0, 0, 0, 0, 0, 0, 104, 105, 0, 106, 107, 0, 108, 109])]
def pv (c k : Nat) : Int := if c = 7 then (4 * k + 9 : Nat) else if 8 ≤ c ∧ c < 48 then (c + k + 2 : Nat) else ((pvT.lookup c).getD []).getD k 0
def lnT : List (Nat × Nat) := [(2, 14), (3, 14), (4, 14), (5, 140), (7, 10), (49, 800), (51, 5), (52, 32), (53, 800), (54, 800), (56, 200), (57, 200), (58, 200), (59, 30), (60, 30), (62, 10), (63, 14), (64, 1024), (66, 240), (67, 11), (68, 25), (69, 25), (70, 25), (71, 25), (73, 10), (74, 10), (75, 10), (76, 10), (77, 10), (80, 14), (81, 14), (82, 14), (83, 14), (84, 140), (85, 10), (86, 10), (87, 10), (88, 10), (89, 10), (90, 10), (91, 100), (92, 400), (93, 100), (94, 180224), (95, 10), (96, 10240), (97, 10240), (98, 10), (99, 200), (100, 200), (101, 200), (102, 800), (103, 800), (104, 800), (105, 800), (106, 800), (107, 64), (108, 64)]
def Sh (M : Mm) : Prop := (∀ c k, isP c k → mg M c k = pv c k) ∧ (∀ q ∈ lnT, ml M q.1 = q.2) ∧ (∀ k, k < 10 → ml M (9 + 4 * k) = 10 ∧ ml M (10 + 4 * k) = 40 ∧ ml M (11 + 4 * k) = 10) ∧ 109 ≤ mN M
theorem Sh_fr {W : Nat → Nat → Prop} {M M' : Mm} (h : Sh M) (f : Fr W M M') (hw : ∀ c k, W c k → ¬ isP c k) : Sh M' := ⟨fun c k hp => (f.1 c k (fun w => hw c k w hp)).trans (h.1 c k hp), fun q hq => (f.2.1 _).trans (h.2.1 q hq), fun k hk => by rw [f.2.1, f.2.1, f.2.1]; exact h.2.2.1 k hk, by rw [f.2.2.1]; exact h.2.2.2⟩
theorem Sh_mp {M : Mm} {c k : Nat} {v : Int} (h : Sh M) (hw : ¬ isP c k) : Sh (mp M c k v) := Sh_fr (W := fun c' k' => c' = c ∧ k' = k) h (Fr_mp ⟨rfl, rfl⟩) (fun c' k' e => by rw [e.1, e.2]; exact hw)
theorem p_0_0 {M : Mm} (h : Sh M) : mg M 0 0 = 2 := h.1 0 0 (by unfold isP; omega)
theorem p_0_1 {M : Mm} (h : Sh M) : mg M 0 1 = 7 := h.1 0 1 (by unfold isP; omega)
theorem p_0_2 {M : Mm} (h : Sh M) : mg M 0 2 = 49 := h.1 0 2 (by unfold isP; omega)
theorem p_0_3 {M : Mm} (h : Sh M) : mg M 0 3 = 51 := h.1 0 3 (by unfold isP; omega)
theorem p_0_4 {M : Mm} (h : Sh M) : mg M 0 4 = 56 := h.1 0 4 (by unfold isP; omega)
theorem p_0_5 {M : Mm} (h : Sh M) : mg M 0 5 = 62 := h.1 0 5 (by unfold isP; omega)
theorem p_0_6 {M : Mm} (h : Sh M) : mg M 0 6 = 66 := h.1 0 6 (by unfold isP; omega)
theorem p_0_7 {M : Mm} (h : Sh M) : mg M 0 7 = 73 := h.1 0 7 (by unfold isP; omega)
theorem p_1_0 {M : Mm} (h : Sh M) : mg M 1 0 = 3 := h.1 1 0 (by unfold isP; omega)
theorem p_1_1 {M : Mm} (h : Sh M) : mg M 1 1 = 4 := h.1 1 1 (by unfold isP; omega)
theorem p_1_2 {M : Mm} (h : Sh M) : mg M 1 2 = 5 := h.1 1 2 (by unfold isP; omega)
theorem p_1_3 {M : Mm} (h : Sh M) : mg M 1 3 = 6 := h.1 1 3 (by unfold isP; omega)
theorem p_6_0 {M : Mm} (h : Sh M) : mg M 6 0 = 8 := h.1 6 0 (by unfold isP; omega)
theorem p_48_0 {M : Mm} (h : Sh M) : mg M 48 0 = 50 := h.1 48 0 (by unfold isP; omega)
theorem p_50_0 {M : Mm} (h : Sh M) : mg M 50 0 = 52 := h.1 50 0 (by unfold isP; omega)
theorem p_50_1 {M : Mm} (h : Sh M) : mg M 50 1 = 53 := h.1 50 1 (by unfold isP; omega)
theorem p_55_0 {M : Mm} (h : Sh M) : mg M 55 0 = 57 := h.1 55 0 (by unfold isP; omega)
theorem p_55_1 {M : Mm} (h : Sh M) : mg M 55 1 = 58 := h.1 55 1 (by unfold isP; omega)
theorem p_55_2 {M : Mm} (h : Sh M) : mg M 55 2 = 59 := h.1 55 2 (by unfold isP; omega)
theorem p_55_3 {M : Mm} (h : Sh M) : mg M 55 3 = 60 := h.1 55 3 (by unfold isP; omega)
theorem p_55_4 {M : Mm} (h : Sh M) : mg M 55 4 = 61 := h.1 55 4 (by unfold isP; omega)
theorem p_61_0 {M : Mm} (h : Sh M) : mg M 61 0 = 63 := h.1 61 0 (by unfold isP; omega)
theorem p_61_1 {M : Mm} (h : Sh M) : mg M 61 1 = 64 := h.1 61 1 (by unfold isP; omega)
theorem p_61_2 {M : Mm} (h : Sh M) : mg M 61 2 = 65 := h.1 61 2 (by unfold isP; omega)
theorem p_65_0 {M : Mm} (h : Sh M) : mg M 65 0 = 67 := h.1 65 0 (by unfold isP; omega)
theorem p_65_1 {M : Mm} (h : Sh M) : mg M 65 1 = 68 := h.1 65 1 (by unfold isP; omega)
theorem p_65_2 {M : Mm} (h : Sh M) : mg M 65 2 = 69 := h.1 65 2 (by unfold isP; omega)
theorem p_65_3 {M : Mm} (h : Sh M) : mg M 65 3 = 70 := h.1 65 3 (by unfold isP; omega)
theorem p_65_4 {M : Mm} (h : Sh M) : mg M 65 4 = 71 := h.1 65 4 (by unfold isP; omega)
theorem p_65_5 {M : Mm} (h : Sh M) : mg M 65 5 = 72 := h.1 65 5 (by unfold isP; omega)
theorem p_72_0 {M : Mm} (h : Sh M) : mg M 72 0 = 74 := h.1 72 0 (by unfold isP; omega)
theorem p_72_3 {M : Mm} (h : Sh M) : mg M 72 3 = 75 := h.1 72 3 (by unfold isP; omega)
theorem p_72_4 {M : Mm} (h : Sh M) : mg M 72 4 = 76 := h.1 72 4 (by unfold isP; omega)
theorem p_72_5 {M : Mm} (h : Sh M) : mg M 72 5 = 77 := h.1 72 5 (by unfold isP; omega)
theorem p_72_6 {M : Mm} (h : Sh M) : mg M 72 6 = 78 := h.1 72 6 (by unfold isP; omega)
theorem p_79_2 {M : Mm} (h : Sh M) : mg M 79 2 = 81 := h.1 79 2 (by unfold isP; omega)
theorem p_79_3 {M : Mm} (h : Sh M) : mg M 79 3 = 82 := h.1 79 3 (by unfold isP; omega)
theorem p_79_4 {M : Mm} (h : Sh M) : mg M 79 4 = 83 := h.1 79 4 (by unfold isP; omega)
theorem p_79_5 {M : Mm} (h : Sh M) : mg M 79 5 = 84 := h.1 79 5 (by unfold isP; omega)
theorem p_79_6 {M : Mm} (h : Sh M) : mg M 79 6 = 85 := h.1 79 6 (by unfold isP; omega)
theorem p_79_8 {M : Mm} (h : Sh M) : mg M 79 8 = 86 := h.1 79 8 (by unfold isP; omega)
theorem p_79_9 {M : Mm} (h : Sh M) : mg M 79 9 = 87 := h.1 79 9 (by unfold isP; omega)
theorem p_79_10 {M : Mm} (h : Sh M) : mg M 79 10 = 88 := h.1 79 10 (by unfold isP; omega)
theorem p_79_11 {M : Mm} (h : Sh M) : mg M 79 11 = 89 := h.1 79 11 (by unfold isP; omega)
theorem p_79_12 {M : Mm} (h : Sh M) : mg M 79 12 = 90 := h.1 79 12 (by unfold isP; omega)
theorem p_79_13 {M : Mm} (h : Sh M) : mg M 79 13 = 91 := h.1 79 13 (by unfold isP; omega)
theorem p_79_14 {M : Mm} (h : Sh M) : mg M 79 14 = 92 := h.1 79 14 (by unfold isP; omega)
theorem p_79_15 {M : Mm} (h : Sh M) : mg M 79 15 = 93 := h.1 79 15 (by unfold isP; omega)
theorem p_79_16 {M : Mm} (h : Sh M) : mg M 79 16 = 94 := h.1 79 16 (by unfold isP; omega)
theorem p_79_17 {M : Mm} (h : Sh M) : mg M 79 17 = 95 := h.1 79 17 (by unfold isP; omega)
theorem p_79_20 {M : Mm} (h : Sh M) : mg M 79 20 = 96 := h.1 79 20 (by unfold isP; omega)
theorem p_79_21 {M : Mm} (h : Sh M) : mg M 79 21 = 97 := h.1 79 21 (by unfold isP; omega)
theorem p_79_22 {M : Mm} (h : Sh M) : mg M 79 22 = 98 := h.1 79 22 (by unfold isP; omega)
theorem p_79_23 {M : Mm} (h : Sh M) : mg M 79 23 = 99 := h.1 79 23 (by unfold isP; omega)
theorem p_79_25 {M : Mm} (h : Sh M) : mg M 79 25 = 100 := h.1 79 25 (by unfold isP; omega)
theorem p_79_26 {M : Mm} (h : Sh M) : mg M 79 26 = 101 := h.1 79 26 (by unfold isP; omega)
theorem p_79_27 {M : Mm} (h : Sh M) : mg M 79 27 = 102 := h.1 79 27 (by unfold isP; omega)
theorem p_79_28 {M : Mm} (h : Sh M) : mg M 79 28 = 103 := h.1 79 28 (by unfold isP; omega)
theorem p_79_39 {M : Mm} (h : Sh M) : mg M 79 39 = 104 := h.1 79 39 (by unfold isP; omega)
theorem p_79_40 {M : Mm} (h : Sh M) : mg M 79 40 = 105 := h.1 79 40 (by unfold isP; omega)
theorem p_79_42 {M : Mm} (h : Sh M) : mg M 79 42 = 106 := h.1 79 42 (by unfold isP; omega)
theorem p_79_43 {M : Mm} (h : Sh M) : mg M 79 43 = 107 := h.1 79 43 (by unfold isP; omega)
theorem p_79_45 {M : Mm} (h : Sh M) : mg M 79 45 = 108 := h.1 79 45 (by unfold isP; omega)
theorem p_79_46 {M : Mm} (h : Sh M) : mg M 79 46 = 109 := h.1 79 46 (by unfold isP; omega)
theorem n_2 {M : Mm} (h : Sh M) : ml M 2 = 14 := h.2.1 (2, 14) (by decide)
theorem n_3 {M : Mm} (h : Sh M) : ml M 3 = 14 := h.2.1 (3, 14) (by decide)
theorem n_4 {M : Mm} (h : Sh M) : ml M 4 = 14 := h.2.1 (4, 14) (by decide)
theorem n_5 {M : Mm} (h : Sh M) : ml M 5 = 140 := h.2.1 (5, 140) (by decide)
theorem n_7 {M : Mm} (h : Sh M) : ml M 7 = 10 := h.2.1 (7, 10) (by decide)
theorem n_49 {M : Mm} (h : Sh M) : ml M 49 = 800 := h.2.1 (49, 800) (by decide)
theorem n_51 {M : Mm} (h : Sh M) : ml M 51 = 5 := h.2.1 (51, 5) (by decide)
theorem n_52 {M : Mm} (h : Sh M) : ml M 52 = 32 := h.2.1 (52, 32) (by decide)
theorem n_53 {M : Mm} (h : Sh M) : ml M 53 = 800 := h.2.1 (53, 800) (by decide)
theorem n_54 {M : Mm} (h : Sh M) : ml M 54 = 800 := h.2.1 (54, 800) (by decide)
theorem n_56 {M : Mm} (h : Sh M) : ml M 56 = 200 := h.2.1 (56, 200) (by decide)
theorem n_57 {M : Mm} (h : Sh M) : ml M 57 = 200 := h.2.1 (57, 200) (by decide)
theorem n_58 {M : Mm} (h : Sh M) : ml M 58 = 200 := h.2.1 (58, 200) (by decide)
theorem n_59 {M : Mm} (h : Sh M) : ml M 59 = 30 := h.2.1 (59, 30) (by decide)
theorem n_60 {M : Mm} (h : Sh M) : ml M 60 = 30 := h.2.1 (60, 30) (by decide)
theorem n_62 {M : Mm} (h : Sh M) : ml M 62 = 10 := h.2.1 (62, 10) (by decide)
theorem n_63 {M : Mm} (h : Sh M) : ml M 63 = 14 := h.2.1 (63, 14) (by decide)
theorem n_64 {M : Mm} (h : Sh M) : ml M 64 = 1024 := h.2.1 (64, 1024) (by decide)
theorem n_66 {M : Mm} (h : Sh M) : ml M 66 = 240 := h.2.1 (66, 240) (by decide)
theorem n_67 {M : Mm} (h : Sh M) : ml M 67 = 11 := h.2.1 (67, 11) (by decide)
theorem n_68 {M : Mm} (h : Sh M) : ml M 68 = 25 := h.2.1 (68, 25) (by decide)
theorem n_69 {M : Mm} (h : Sh M) : ml M 69 = 25 := h.2.1 (69, 25) (by decide)
theorem n_70 {M : Mm} (h : Sh M) : ml M 70 = 25 := h.2.1 (70, 25) (by decide)
theorem n_71 {M : Mm} (h : Sh M) : ml M 71 = 25 := h.2.1 (71, 25) (by decide)
theorem n_73 {M : Mm} (h : Sh M) : ml M 73 = 10 := h.2.1 (73, 10) (by decide)
theorem n_74 {M : Mm} (h : Sh M) : ml M 74 = 10 := h.2.1 (74, 10) (by decide)
theorem n_75 {M : Mm} (h : Sh M) : ml M 75 = 10 := h.2.1 (75, 10) (by decide)
theorem n_76 {M : Mm} (h : Sh M) : ml M 76 = 10 := h.2.1 (76, 10) (by decide)
theorem n_77 {M : Mm} (h : Sh M) : ml M 77 = 10 := h.2.1 (77, 10) (by decide)
theorem n_80 {M : Mm} (h : Sh M) : ml M 80 = 14 := h.2.1 (80, 14) (by decide)
theorem n_81 {M : Mm} (h : Sh M) : ml M 81 = 14 := h.2.1 (81, 14) (by decide)
theorem n_82 {M : Mm} (h : Sh M) : ml M 82 = 14 := h.2.1 (82, 14) (by decide)
theorem n_83 {M : Mm} (h : Sh M) : ml M 83 = 14 := h.2.1 (83, 14) (by decide)
theorem n_84 {M : Mm} (h : Sh M) : ml M 84 = 140 := h.2.1 (84, 140) (by decide)
theorem n_85 {M : Mm} (h : Sh M) : ml M 85 = 10 := h.2.1 (85, 10) (by decide)
theorem n_86 {M : Mm} (h : Sh M) : ml M 86 = 10 := h.2.1 (86, 10) (by decide)
theorem n_87 {M : Mm} (h : Sh M) : ml M 87 = 10 := h.2.1 (87, 10) (by decide)
theorem n_88 {M : Mm} (h : Sh M) : ml M 88 = 10 := h.2.1 (88, 10) (by decide)
theorem n_89 {M : Mm} (h : Sh M) : ml M 89 = 10 := h.2.1 (89, 10) (by decide)
theorem n_90 {M : Mm} (h : Sh M) : ml M 90 = 10 := h.2.1 (90, 10) (by decide)
theorem n_91 {M : Mm} (h : Sh M) : ml M 91 = 100 := h.2.1 (91, 100) (by decide)
theorem n_92 {M : Mm} (h : Sh M) : ml M 92 = 400 := h.2.1 (92, 400) (by decide)
theorem n_93 {M : Mm} (h : Sh M) : ml M 93 = 100 := h.2.1 (93, 100) (by decide)
theorem n_94 {M : Mm} (h : Sh M) : ml M 94 = 180224 := h.2.1 (94, 180224) (by decide)
theorem n_95 {M : Mm} (h : Sh M) : ml M 95 = 10 := h.2.1 (95, 10) (by decide)
theorem n_96 {M : Mm} (h : Sh M) : ml M 96 = 10240 := h.2.1 (96, 10240) (by decide)
theorem n_97 {M : Mm} (h : Sh M) : ml M 97 = 10240 := h.2.1 (97, 10240) (by decide)
theorem n_98 {M : Mm} (h : Sh M) : ml M 98 = 10 := h.2.1 (98, 10) (by decide)
theorem n_99 {M : Mm} (h : Sh M) : ml M 99 = 200 := h.2.1 (99, 200) (by decide)
theorem n_100 {M : Mm} (h : Sh M) : ml M 100 = 200 := h.2.1 (100, 200) (by decide)
theorem n_101 {M : Mm} (h : Sh M) : ml M 101 = 200 := h.2.1 (101, 200) (by decide)
theorem n_102 {M : Mm} (h : Sh M) : ml M 102 = 800 := h.2.1 (102, 800) (by decide)
theorem n_103 {M : Mm} (h : Sh M) : ml M 103 = 800 := h.2.1 (103, 800) (by decide)
theorem n_104 {M : Mm} (h : Sh M) : ml M 104 = 800 := h.2.1 (104, 800) (by decide)
theorem n_105 {M : Mm} (h : Sh M) : ml M 105 = 800 := h.2.1 (105, 800) (by decide)
theorem n_106 {M : Mm} (h : Sh M) : ml M 106 = 800 := h.2.1 (106, 800) (by decide)
theorem n_107 {M : Mm} (h : Sh M) : ml M 107 = 64 := h.2.1 (107, 64) (by decide)
theorem n_108 {M : Mm} (h : Sh M) : ml M 108 = 64 := h.2.1 (108, 64) (by decide)
theorem p_7 {M : Mm} (h : Sh M) {k : Nat} (hk : k < 10) : mg M 7 k = ((8 + 4 * k : Nat) : Int) + 1 := by
  rw [h.1 7 k (by unfold isP; omega)]; unfold pv; rw [if_pos rfl]; omega
theorem p_pc0 {M : Mm} (h : Sh M) {k : Nat} (hk : k < 10) : mg M (8 + 4 * k) 0 = ((9 + 4 * k : Nat) : Int) + 1 := by
  rw [h.1 (8 + 4 * k) 0 (by unfold isP; omega)]; unfold pv; rw [if_neg (by omega), if_pos (by omega)]; omega
theorem p_pc1 {M : Mm} (h : Sh M) {k : Nat} (hk : k < 10) : mg M (8 + 4 * k) 1 = ((10 + 4 * k : Nat) : Int) + 1 := by
  rw [h.1 (8 + 4 * k) 1 (by unfold isP; omega)]; unfold pv; rw [if_neg (by omega), if_pos (by omega)]; omega
theorem p_pc2 {M : Mm} (h : Sh M) {k : Nat} (hk : k < 10) : mg M (8 + 4 * k) 2 = ((11 + 4 * k : Nat) : Int) + 1 := by
  rw [h.1 (8 + 4 * k) 2 (by unfold isP; omega)]; unfold pv; rw [if_neg (by omega), if_pos (by omega)]; omega
theorem n_pc0 {M : Mm} (h : Sh M) {k : Nat} (hk : k < 10) : ml M (9 + 4 * k) = 10 := (h.2.2.1 k hk).1
theorem n_pc1 {M : Mm} (h : Sh M) {k : Nat} (hk : k < 10) : ml M (10 + 4 * k) = 40 := (h.2.2.1 k hk).2.1
theorem n_pc2 {M : Mm} (h : Sh M) {k : Nat} (hk : k < 10) : ml M (11 + 4 * k) = 10 := (h.2.2.1 k hk).2.2

theorem itp {β : Type} {c : Prop} [Decidable c] {A B : Option β} {z : β} (hc : c) (h : (if c then A else B) = some z) : A = some z := by rw [if_pos hc] at h; exact h
theorem itn {β : Type} {c : Prop} [Decidable c] {A B : Option β} {z : β} (hc : ¬ c) (h : (if c then A else B) = some z) : B = some z := by rw [if_neg hc] at h; exact h
theorem sx1 {α β γ : Type} {f : α → Option γ} {g : β → Option γ} {q : α} {z : γ} (h : Sum.elim f g (.inl q) = some z) : f q = some z := h
theorem sx2 {α β γ : Type} {f : α → Option γ} {g : β → Option γ} {q : β} {z : γ} (h : Sum.elim f g (.inr q) = some z) : g q = some z := h
section EV9
variable {X : XX} {mi : MI} {d pc : Nat} {L : List (Nat × AV)} {st st2 : List AV} {M : Mm} {r : Option AV} {M' : Mm}
theorem ev_callV2 {mi' : MI} {d' t n idx N : Nat} {v : Int} {as rest : List AV} {r1 : Option AV} {M1 : Mm} {C : String} {T : u_T} (hst : st = as.reverse ++ (t, v) :: rest) (h2 : 2 ≤ t) (h12 : t ≤ 12) (hc : cls[t - 2]? = some (C, T, N)) (hv : v ≠ 0) (hn : as.length = n) (hr8 : aW rest ≤ 8) (ho : CalOk mi' n) (hi : Cond.instanceMethod mi'.1 ∈ tblG ∧ Cond.selects C mi'.1 mi'.1 ∈ tblG) (hdd : d' + 1 ≤ d) (hw : Cond.methodLink mi.2.2.2.2 idx mi'.1 ∈ tblG) (hd : decode mi.2.1 pc = .ok (.invokevirtual idx, 3)) (hR : Rn X d' mi' ((t, v) :: as) M r1 M1) (hs2 : r1.toList ++ rest = st2) (h : Ev X mi d (pc + 3) L st2 M1 r M') : Ev X mi d pc L st M r M' := by
  subst hs2; exact ev_callV hst h2 h12 hc hv hn hr8 ho hi hdd hw hd hR h
theorem ev_callVN2 {mi' : MI} {d' t n idx N : Nat} {v : Int} {as rest : List AV} {r1 : Option AV} {M1 : Mm} {C host : String} {T : u_T} (hst : st = as.reverse ++ (t, v) :: rest) (h2 : 2 ≤ t) (h12 : t ≤ 12) (hc : cls[t - 2]? = some (C, T, N)) (hv : v ≠ 0) (hn : as.length = n) (hr8 : aW rest ≤ 8) (ho : CalOk mi' n) (hi : Cond.instanceMethod mi'.1 ∈ tblG ∧ Cond.selects C mi'.1 mi'.1 ∈ tblG) (hdd : d' + 1 ≤ d) (hw : Cond.methodLinkNest mi.2.2.2.2 idx mi'.1 host ∈ tblN) (hd : decode mi.2.1 pc = .ok (.invokevirtual idx, 3)) (hR : Rn X d' mi' ((t, v) :: as) M r1 M1) (hs2 : r1.toList ++ rest = st2) (h : Ev X mi d (pc + 3) L st2 M1 r M') : Ev X mi d pc L st M r M' := by
  subst hs2; exact ev_callVN hst h2 h12 hc hv hn hr8 ho hi hdd hw hd hR h
theorem ev_callS2 {mi' : MI} {d' n idx : Nat} {as rest : List AV} {r1 : Option AV} {M1 : Mm} (hst : st = as.reverse ++ rest) (hn : as.length = n) (hr8 : aW rest ≤ 8) (ho : CalOk mi' n) (hi : Cond.static mi'.1 ∈ tblG) (hdd : d' + 1 ≤ d) (hw : Cond.methodLink mi.2.2.2.2 idx mi'.1 ∈ tblG) (hd : decode mi.2.1 pc = .ok (.invokestatic idx, 3)) (hR : Rn X d' mi' as M r1 M1) (hs2 : r1.toList ++ rest = st2) (h : Ev X mi d (pc + 3) L st2 M1 r M') : Ev X mi d pc L st M r M' := by
  subst hs2; exact ev_callS hst hn hr8 ho hi hdd hw hd hR h
theorem ev_callSN2 {mi' : MI} {d' n idx : Nat} {host : String} {as rest : List AV} {r1 : Option AV} {M1 : Mm} (hst : st = as.reverse ++ rest) (hn : as.length = n) (hr8 : aW rest ≤ 8) (ho : CalOk mi' n) (hi : Cond.static mi'.1 ∈ tblG) (hdd : d' + 1 ≤ d) (hw : Cond.methodLinkNest mi.2.2.2.2 idx mi'.1 host ∈ tblN) (hd : decode mi.2.1 pc = .ok (.invokestatic idx, 3)) (hR : Rn X d' mi' as M r1 M1) (hs2 : r1.toList ++ rest = st2) (h : Ev X mi d (pc + 3) L st2 M1 r M') : Ev X mi d pc L st M r M' := by
  subst hs2; exact ev_callSN hst hn hr8 ho hi hdd hw hd hR h
theorem ev_callT2 {mi' : MI} {d' n idx : Nat} {v : Int} {as rest : List AV} {r1 : Option AV} {M1 : Mm} (hst : st = as.reverse ++ (20, v) :: rest) (h9 : 0 ≤ v ∧ v < 9) (hn : as.length = n) (hr8 : aW rest ≤ 8) (ho : CalOk mi' n) (hi : Cond.instanceMethod mi'.1 ∈ tblG ∧ Cond.selects "java/lang/String" mi'.1 mi'.1 ∈ tblG) (hdd : d' + 1 ≤ d) (hw : Cond.methodLink mi.2.2.2.2 idx mi'.1 ∈ tblG) (hd : decode mi.2.1 pc = .ok (.invokevirtual idx, 3)) (hR : Rn X d' mi' ((20, v) :: as) M r1 M1) (hs2 : r1.toList ++ rest = st2) (h : Ev X mi d (pc + 3) L st2 M1 r M') : Ev X mi d pc L st M r M' := by
  subst hs2
  obtain ⟨i, rfl⟩ := Int.eq_ofNat_of_zero_le h9.1
  exact ev_callT hst (by omega) hn hr8 ho hi hdd hw hd hR h
end EV9
/-! the JDK's texts: length, charAt -/
def f_String_length (a0 : Int) : Option Int := some (txL.getD a0.toNat 0 : Int)
def f_String_charAt (a0 a1 : Int) : Option Int := if 0 ≤ a1 ∧ a1 < (txL.getD a0.toNat 0 : Int) then some (txb a0.toNat a1.toNat) else none
theorem c_String_coder {X : XX} {d i : Nat} {M : Mm} (h9 : i < 9) : Rn X d m_String_coder [(20, (i : Int))] M (some (0, 0)) M := by
  refine Rn_of (by decide) rfl (Nat.le_of_ble_eq_true rfl) ?_
  refine ev_less (L' := [(0, (20, (i : Int)))]) [0] rfl ?_
  refine ev_comp tw_428 d_String_coder_0 ?_
  refine ev_if_eq_f d_String_coder_3 (by decide) (by decide) ?_
  refine ev_aload_n 0 d_String_coder_6 rfl (by decide) rfl ?_
  refine ev_textC h9 tw_1328 d_String_coder_7 ?_
  refine ev_goto (tgt := 14) d_String_coder_10 (by decide) ?_
  exact ev_retB d_String_coder_14 rfl
theorem c_String_isLatin1 {X : XX} {d i : Nat} {M : Mm} (h9 : i < 9) : Rn X d m_String_isLatin1 [(20, (i : Int))] M (some (0, 1)) M := by
  refine Rn_of (by decide) rfl (Nat.le_of_ble_eq_true rfl) ?_
  refine ev_less (L' := [(0, (20, (i : Int)))]) [0] rfl ?_
  refine ev_comp tw_428 d_String_isLatin1_0 ?_
  refine ev_if_eq_f d_String_isLatin1_3 (by decide) (by decide) ?_
  refine ev_aload_n 0 d_String_isLatin1_6 rfl (by decide) rfl ?_
  refine ev_textC h9 tw_1328 d_String_isLatin1_7 ?_
  refine ev_if_ne_f d_String_isLatin1_10 (by decide) (by decide) ?_
  refine ev_iconst d_String_isLatin1_13 rfl ?_
  refine ev_goto (tgt := 18) d_String_isLatin1_14 (by decide) ?_
  exact ev_retZ d_String_isLatin1_18 rfl (Or.inr rfl)
theorem bShr0 (n : Nat) (h : n < 1000) : bShr (n : Int) 0 = (n : Int) := by
  have e : ∀ n : Nat, n < 1000 → (Int32.ofInt (n : Int) >>> (Int32.ofInt 0 &&& 31)).toInt = (n : Int) := by decide +kernel
  rw [bShr_d]; exact e n h
theorem c_String_length {X : XX} {d : Nat} {M : Mm} {a0 p : Int} (hd : 4 ≤ d) (h9 : 0 ≤ a0 ∧ a0 < 9) (h : f_String_length a0 = some p) : Rn X d m_String_length [(20, a0)] M (some (0, p)) M := by
  unfold f_String_length at h
  obtain ⟨i, rfl⟩ := Int.eq_ofNat_of_zero_le h9.1
  have h9 : i < 9 := by omega
  cases h
  refine Rn_of (by decide) rfl (Nat.le_of_ble_eq_true rfl) ?_
  refine ev_less (L' := [(0, (20, (i : Int)))]) [0] rfl ?_
  refine ev_aload_n 0 d_String_length_0 rfl (by decide) rfl ?_
  refine ev_textV h9 tw_1327 d_String_length_1 ?_
  refine ev_textL h9 d_String_length_4 ?_
  refine ev_aload_n 0 d_String_length_5 rfl (by decide) rfl ?_
  refine ev_callT2 (st2 := [(0, 0), (0, (txL.getD i 0 : Int))]) (as := []) (rest := [(0, (txL.getD i 0 : Int))]) rfl ⟨by omega, by omega⟩ rfl (Nat.le_of_ble_eq_true rfl) k_String_coder ⟨tw_425, tw_426⟩ (d' := d - 1) (by omega) tw_424 d_String_length_6 (c_String_coder h9) rfl ?_
  refine ev_ishr d_String_length_9 ?_
  rw [bShr0 _ (by have := txL_9 i h9; omega)]
  exact ev_ret d_String_length_10 rfl
theorem c_Pre_checkIndex {X : XX} {d : Nat} {M : Mm} {a0 a1 : Int} (h0 : 0 ≤ a0) (h1 : a0 < a1) : Rn X d m_Pre_checkIndex [(0, a0), (0, a1), (23, 1)] M (some (0, a0)) M := by
  refine Rn_of (by decide) rfl (Nat.le_of_ble_eq_true rfl) ?_
  refine ev_less (L' := [(0, (0, a0)), (1, (0, a1)), (2, (23, 1))]) [0, 1, 2] rfl ?_
  refine ev_iload_n 0 d_Pre_checkIndex_0 rfl rfl ?_
  refine ev_if_lt_f d_Pre_checkIndex_1 (by decide) (by omega) ?_
  refine ev_iload_n 0 d_Pre_checkIndex_4 rfl rfl ?_
  refine ev_iload_n 1 d_Pre_checkIndex_5 rfl rfl ?_
  refine ev_icmp_lt_t (tgt := 16) d_Pre_checkIndex_6 (by decide) h1 ?_
  refine ev_iload_n 0 d_Pre_checkIndex_16 rfl rfl ?_
  exact ev_ret d_Pre_checkIndex_17 rfl
theorem c_String_checkIndex {X : XX} {d : Nat} {M : Mm} {a0 a1 : Int} (hd : 1 ≤ d) (h0 : 0 ≤ a0) (h1 : a0 < a1) : Rn X d m_String_checkIndex [(0, a0), (0, a1)] M none M := by
  refine Rn_of (by decide) rfl (Nat.le_of_ble_eq_true rfl) ?_
  refine ev_less (L' := [(0, (0, a0)), (1, (0, a1))]) [0, 1] rfl ?_
  refine ev_iload_n 0 d_String_checkIndex_0 rfl rfl ?_
  refine ev_iload_n 1 d_String_checkIndex_1 rfl rfl ?_
  refine ev_form tw_444 d_String_checkIndex_2 ?_
  refine ev_callS2 (st2 := [(0, a0)]) (as := [(0, a0), (0, a1), (23, 1)]) (rest := []) rfl rfl (Nat.le_of_ble_eq_true rfl) k_Pre_checkIndex tw_447 (d' := d - 1) (by omega) tw_446 d_String_checkIndex_5 (c_Pre_checkIndex h0 h1) rfl ?_
  refine ev_pop d_String_checkIndex_8 (Nat.ne_of_beq_eq_false rfl) ?_
  exact ev_retV d_String_checkIndex_9 rfl
theorem bAnd255 (n : Nat) (h : n < 128) : bAnd (n : Int) 255 = (n : Int) := by
  have e : ∀ n : Nat, n < 128 → (Int32.ofInt (n : Int) &&& Int32.ofInt 255).toInt = (n : Int) := by decide +kernel
  rw [bAnd_d]; exact e n h
theorem c_Latin_charAt {X : XX} {d i : Nat} {M : Mm} {a1 : Int} (hd : 2 ≤ d) (h9 : i < 9) (h0 : 0 ≤ a1) (h1 : a1 < (txL.getD i 0 : Int)) : Rn X d m_Latin_charAt [(22, (i : Int)), (0, a1)] M (some (0, txb i a1.toNat)) M := by
  have h5 := txL_9 i h9
  have hb := txb_ok i h9 a1.toNat (by omega)
  refine Rn_of (by decide) rfl (Nat.le_of_ble_eq_true rfl) ?_
  refine ev_less (L' := [(0, (22, (i : Int))), (1, (0, a1))]) [0, 1] rfl ?_
  refine ev_iload_n 1 d_Latin_charAt_0 rfl rfl ?_
  refine ev_aload_n 0 d_Latin_charAt_1 rfl (by decide) rfl ?_
  refine ev_textL h9 d_Latin_charAt_2 ?_
  refine ev_callS2 (st2 := []) (as := [(0, a1), (0, (txL.getD i 0 : Int))]) (rest := []) rfl rfl (Nat.le_of_ble_eq_true rfl) k_String_checkIndex tw_442 (d' := d - 1) (by omega) tw_441 d_Latin_charAt_3 (c_String_checkIndex (by omega) h0 h1) rfl ?_
  refine ev_aload_n 0 d_Latin_charAt_6 rfl (by decide) rfl ?_
  refine ev_iload_n 1 d_Latin_charAt_7 rfl rfl ?_
  refine ev_textB h9 ⟨h0, h1⟩ d_Latin_charAt_8 ?_
  refine ev_sipush d_Latin_charAt_9 rfl ?_
  refine ev_iand d_Latin_charAt_12 ?_
  have e : bAnd (txb i a1.toNat) 255 = txb i a1.toNat := by
    obtain ⟨k, hk⟩ := Int.eq_ofNat_of_zero_le hb.1
    rw [hk]; exact bAnd255 k (by omega)
  rw [e]
  refine ev_i2c hb.1 (by omega) d_Latin_charAt_13 ?_
  exact ev_retC d_Latin_charAt_14 rfl hb
theorem c_String_charAt {X : XX} {d : Nat} {M : Mm} {a0 a1 p : Int} (hd : 4 ≤ d) (h9 : 0 ≤ a0 ∧ a0 < 9) (h : f_String_charAt a0 a1 = some p) : Rn X d m_String_charAt [(20, a0), (0, a1)] M (some (0, p)) M := by
  unfold f_String_charAt at h
  obtain ⟨⟨h0, h1⟩, h⟩ := gx h
  obtain ⟨i, rfl⟩ := Int.eq_ofNat_of_zero_le h9.1
  have h9 : i < 9 := by omega
  cases h
  rw [Int.toNat_natCast] at h1 ⊢
  have h5 := txL_9 i h9
  have hb := txb_ok i h9 a1.toNat (by omega)
  refine Rn_of (by decide) rfl (Nat.le_of_ble_eq_true rfl) ?_
  refine ev_less (L' := [(0, (20, (i : Int))), (1, (0, a1))]) [0, 1] rfl ?_
  refine ev_aload_n 0 d_String_charAt_0 rfl (by decide) rfl ?_
  refine ev_callT2 (st2 := [(0, 1)]) (as := []) (rest := []) rfl ⟨by omega, by omega⟩ rfl (Nat.le_of_ble_eq_true rfl) k_String_isLatin1 ⟨tw_435, tw_436⟩ (d' := d - 1) (by omega) tw_434 d_String_charAt_1 (c_String_isLatin1 h9) rfl ?_
  refine ev_if_eq_f d_String_charAt_4 (by decide) (by decide) ?_
  refine ev_aload_n 0 d_String_charAt_7 rfl (by decide) rfl ?_
  refine ev_textV h9 tw_1327 d_String_charAt_8 ?_
  refine ev_iload_n 1 d_String_charAt_11 rfl rfl ?_
  refine ev_callS2 (st2 := [(0, txb i a1.toNat)]) (as := [(22, (i : Int)), (0, a1)]) (rest := []) rfl rfl (Nat.le_of_ble_eq_true rfl) k_Latin_charAt tw_439 (d' := d - 1) (by omega) tw_438 d_String_charAt_12 (c_Latin_charAt (by omega) h9 h0 h1) rfl ?_
  exact ev_retC d_String_charAt_15 rfl hb

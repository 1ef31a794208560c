/-! Calls: word. -/
theorem look_ct (lt : Nat → Nat) (g : Nat → Bool) : ∀ n, (look lt g n).length + fb_ct g n = n
  | 0 => rfl
  | n + 1 => by
    have ih := look_ct lt g n
    rw [look, List.length_append, fb_ct_succ]
    cases g n with
    | true => simp; omega
    | false => simp; omega
theorem ct_cut {f : Nat → Bool} {n : Nat} (hn : ∀ i, n ≤ i → f i = false) : ∀ m, fb_ct f (n + m) = fb_ct f n
  | 0 => rfl
  | m + 1 => by rw [← Nat.add_assoc, fb_ct_succ, hn (n + m) (by omega), ct_cut hn m]; rfl
theorem ct_congr {f g : Nat → Bool} : ∀ {n : Nat}, (∀ i, i < n → f i = g i) → fb_ct f n = fb_ct g n
  | 0, _ => rfl
  | n + 1, h => by rw [fb_ct_succ, fb_ct_succ, ct_congr (n := n) (fun i hi => h i (by omega)), h n (by omega)]
section OG
variable {h : Bool × Nat × Nat} {d : Nat} {I J : Nat → Nat → Int32} {L : Nat → Nat → Int64} {A : aP}
/-- what a word has gone -/
def gnA (A : aP) (w st : Nat) : Nat := uO (aS A) w &&& msk (fun i => st.testBit ((aBk A).2.2 w i)) ((aBk A).2.1 w)
theorem gnA_bit (hw : wfA A) {w : Nat} (hw' : w < (aBk A).1) (st i : Nat) : (gnA A w st).testBit i = (decide (i < (aBk A).2.1 w) && ((uO (aS A) w).testBit i && st.testBit ((aBk A).2.2 w i))) := by
  unfold gnA
  rw [Nat.testBit_and, msk_bit]
  cases (uO (aS A) w).testBit i <;> simp
theorem gnA_lt (hw : wfA A) {w : Nat} (hw' : w < (aBk A).1) (st : Nat) : gnA A w st < 256 := by
  have h1 := msk_lt (fun i => st.testBit ((aBk A).2.2 w i)) ((aBk A).2.1 w)
  have h2 := pw8 (hw.2.2.1.2 w (by have := hw.2.2.1.1; omega)).1
  have h3 : gnA A w st ≤ msk (fun i => st.testBit ((aBk A).2.2 w i)) ((aBk A).2.1 w) := Nat.and_le_right
  omega
theorem lk_gn (hw : wfA A) {w : Nat} (hw' : w < (aBk A).1) (st : Nat) : (lk A w st).length + pcn (gnA A w st) = (aBk A).2.1 w := by
  have h8 := (hw.2.2.1.2 w (by have := hw.2.2.1.1; omega)).1
  have h1 := look_ct ((aBk A).2.2 w) (fun i => (uO (aS A) w).testBit i && st.testBit ((aBk A).2.2 w i)) ((aBk A).2.1 w)
  have h2 : pcn (gnA A w st) = fb_ct (fun i => (uO (aS A) w).testBit i && st.testBit ((aBk A).2.2 w i)) ((aBk A).2.1 w) := by
    unfold pcn
    have := ct_cut (f := fun i => (gnA A w st).testBit i) (n := (aBk A).2.1 w) (fun i hi => by rw [gnA_bit hw hw', decide_eq_false (by omega)]; rfl) (8 - (aBk A).2.1 w)
    rw [show (aBk A).2.1 w + (8 - (aBk A).2.1 w) = 8 by omega] at this
    rw [this]
    exact ct_congr (fun i hi => by rw [gnA_bit hw hw', decide_eq_true hi]; rfl)
  rw [h2]
  exact h1
theorem xGn (d : Nat) (hw : wfA A) (hi : invC I L A) (f : frC I J) {w : Nat} (hw' : w < (aBk A).1) (st : Nat) {L' : Nat → Nat → Int64} : ev_do (d + 2) M_Book_gone [.ref 5, .ref 17, .int (nI w), .int (nI st)] (ev_mk h J L') = ev_ri (nI (gnA A w st)) (ev_mk h J L') := c_Book_gone d (hi.bk f).1 (Or.inl rfl) (by have := hw.2.2.1.1; omega) (hi.u hw f w hw')
/-- the words that are one with w -/
def sameA (A : aP) (w n : Nat) : Nat := msk (fun b => decide (b ≠ w) && on A w b (uO (aS A) 24)) n
theorem c_oneWith (d : Nat) (hw : wfA A) (hi : invC I L A) {w : Nat} (hw' : w < (aBk A).1) {L' : Nat → Nat → Int64} : ∃ K, ev_do (d + 5) M_SL_oneWith [.ref 0, .int (nI w)] (ev_mk h I L') = ev_ri (nI (sameA A w (aBk A).1)) (ev_mk h K L') ∧ frC I K ∧ exc [133] I K := by
  have hW := hw.2.2.1.1
  obtain ⟨K, e1, f1, x1, c1⟩ := xSp (h := h) (L' := L') d hw hi frC.rf (uO (aS A) 24)
  refine ⟨K, ?_, f1, x1⟩
  rw [e_SL_oneWith_0, hi.st3 hw frC.rf, e1, k_V, k_1, k_2, k_3]
  refine lpE (F := fun i (_ : Unit) => ev_at (d + 4) M_SL_oneWith 26 [.ref 0, .int (nI w), .int (nI (sameA A w i)), .int (nI i)] [] (ev_mk h K L')) (fun _ _ => True) (fun o => o = ev_ri (nI (sameA A w (aBk A).1)) (ev_mk h K L')) (aBk A).1 ?_ ?_ 0 (by omega) () trivial
  · intro i _ hi' _
    refine Or.inl ⟨(), ?_, trivial⟩
    have eS : sameA A w (i + 1) = sameA A w i ||| (if decide (i ≠ w) && on A w i (uO (aS A) 24) then 2 ^ i else 0) := rfl
    rw [eS, e_SL_oneWith_26]
    by_cases e : i = w
    · subst e
      simp (disch := first | omega | assumption) only [(hi.bk f1).1.1, k_I, k_L, k_V, k_1, k_2, k_3, q_cl, z_in, z_lt_t, z_lt_f, z_eq_t, z_eq_f, q_add, q_sub, q_mul, z_tt, z_bit, z_shl, u_at, u_c, u_j, fa_or, z_fl, z_flf, eq_self, ↓reduceIte, z_0, z_1, z_2, z_3, z_4, z_5, z_6, z_7, z_8, z_9, z_10, z_12, z_15, z_16, z_24, z_27, z_40, z_60, z_79, z_80, z_99, z_255, z_256, z_405, z_432, z_9999, z_1000000]
      simp
    · rw [decide_eq_true e, Bool.true_and]
      cases ho : on A w i (uO (aS A) 24) with
      | true =>
        have := (cod_on hw hi' hw' (uO (aS A) 24)).mpr (by rw [on_comm]; exact ho)
        simp (disch := first | omega | assumption) only [(hi.bk f1).1.1, c1 i hi', c1 w hw', this, k_I, k_L, k_V, k_1, k_2, k_3, q_cl, z_in, z_lt_t, z_lt_f, z_eq_t, z_eq_f, q_add, q_sub, q_mul, z_tt, z_bit, z_shl, u_at, u_c, u_j, fa_or, z_fl, z_flf, eq_self, ↓reduceIte, z_0, z_1, z_2, z_3, z_4, z_5, z_6, z_7, z_8, z_9, z_10, z_12, z_15, z_16, z_24, z_27, z_40, z_60, z_79, z_80, z_99, z_255, z_256, z_405, z_432, z_9999, z_1000000]
      | false =>
        have : ¬ nI (cod (lk A i (uO (aS A) 24))) = nI (cod (lk A w (uO (aS A) 24))) := fun z => by
          rw [on_comm, (cod_on hw hi' hw' (uO (aS A) 24)).mp z] at ho; cases ho
        simp (disch := first | omega | assumption) only [(hi.bk f1).1.1, c1 i hi', c1 w hw', this, Bool.false_eq_true, Nat.or_zero, k_I, k_L, k_V, k_1, k_2, k_3, q_cl, z_in, z_lt_t, z_lt_f, z_eq_t, z_eq_f, q_add, q_sub, q_mul, z_tt, z_bit, z_shl, u_at, u_c, u_j, fa_or, z_fl, z_flf, eq_self, ↓reduceIte, z_0, z_1, z_2, z_3, z_4, z_5, z_6, z_7, z_8, z_9, z_10, z_12, z_15, z_16, z_24, z_27, z_40, z_60, z_79, z_80, z_99, z_255, z_256, z_405, z_432, z_9999, z_1000000]
  · intro _ _
    rw [e_SL_oneWith_26]; simp (disch := first | omega | assumption) only [(hi.bk f1).1.1, k_I, k_L, k_V, k_1, k_2, k_3, q_cl, z_in, z_lt_t, z_lt_f, z_eq_t, z_eq_f, q_add, q_sub, q_mul, z_tt, z_bit, z_shl, u_at, u_c, u_j, fa_or, z_fl, z_flf, eq_self, ↓reduceIte, z_0, z_1, z_2, z_3, z_4, z_5, z_6, z_7, z_8, z_9, z_10, z_12, z_15, z_16, z_24, z_27, z_40, z_60, z_79, z_80, z_99, z_255, z_256, z_405, z_432, z_9999, z_1000000]
def wdA (A : aP) (w : Nat) (y : Int32) : Int32 := if y = 0 then nI ((aBk A).2.1 w) else if y = 1 then nI (lk A w (uO (aS A) 24)).length else if y = 2 then nI (lAt ((aBk A).2.2 w) 255 ((aBk A).2.1 w)) else if y = 3 then nI (lAt ((aBk A).2.2 w) (uO (aS A) w) ((aBk A).2.1 w)) else nI (sameA A w (aBk A).1)
theorem b255 : ∀ i, i < 8 → (255 : Nat).testBit i = true := by decide
theorem op_word {x y : Int32} (hi : inv I L) : okX h d M_SL_word M_Mo_word [.int x, .int y] I L := by
  refine okX_of (fun A hw => ?_) hi
  have hW := hw.2.2.1.1
  cases hxy : blw x (aBk A).1 && blw y 5 with
  | false =>
    refine Or.inr ⟨fun I L hi => ?_, 0, fun I L hi => ⟨_, ?_, hi.t1, t1_lo, u_at _ _ _ _⟩⟩
    · rw [e_SL_word_0, c_Book_has (d + 98) hi.2.2.1.1.1, k_I, k_1, k_2, k_3, show (4 : Int32) = nI 4 from rfl, r_two (by omega), e_SL_word_20]
      cases hx : blw x (aBk A).1 with
      | false => rw [if_pos (show fl false = 0 from rfl)]
      | true =>
        rw [hx, Bool.true_and] at hxy
        rw [if_neg (show ¬ fl true = 0 by decide), hxy, if_neg (by decide)]
    · rw [e_Mo_word_0, c_Mo_isWord (d + 97) hi.th.2.2.1.1 hW, k_I, k_1, k_2, k_3, e_Mo_refuse_0]
      cases hx : blw x (aBk A).1 with
      | false => rw [if_pos (show fl false = 0 from rfl), k_I, k_1, k_2, k_3]
      | true =>
        rw [hx, Bool.true_and] at hxy
        rw [if_neg (show ¬ fl true = 0 by decide), c_in4, k_I, k_1, k_2, k_3, hxy, if_pos (show fl false = 0 from rfl), e_Mo_refuse_0, k_I, k_1, k_2, k_3]
  | true =>
    rw [Bool.and_eq_true] at hxy
    obtain ⟨hx, hy⟩ := hxy
    obtain ⟨w, hw', rfl⟩ := (blw_iff (by omega)).mp hx
    have hwB := hw.2.2.1.2 w (by omega)
    refine Or.inl ⟨wdA A w y, A, hw, fun I L hi => ?_, fun I L hi => ?_⟩
    · obtain ⟨K, e1, f1, x1⟩ := c_oneWith (h := h) (L' := L) (d + 94) hw hi hw'
      have hg := xGn (h := h) (L' := L) (d + 97) hw hi frC.rf hw' (uO (aS A) 24)
      have hlg := lk_gn hw hw' (uO (aS A) 24)
      have e0 : ev_do (d + 100) M_SL_word [.ref 0, .int (nI w), .int y] (ev_mk h I L) = ev_ri (wdA A w y) (ev_mk h (if y = 0 ∨ y = 1 ∨ y = 2 ∨ y = 3 then I else K) L) := by
        rw [e_SL_word_0, c_Book_has (d + 98) hi.2.2.1.1.1, k_I, k_1, k_2, k_3, hx, if_neg (show ¬ fl true = 0 by decide), show (4 : Int32) = nI 4 from rfl, r_two (by omega), hy, if_pos rfl, show ev_in (nI w) 8 = true from z_in (by omega) (by omega)]
        simp only [↓reduceIte]
        rw [q_cl (by omega), hi.st3 hw frC.rf, hg, (hi.2.2.1.1.2.2 w (by omega)).1, hi.u hw frC.rf w hw', e1, show (.int 255 : Value) = .int (nI 255) from rfl]
        simp only [k_I, k_1, k_2, k_3, c_bitCount (d + 98) (gnA_lt hw hw' (uO (aS A) 24)), c_Book_lettersAt (d + 98) hi.2.2.1.1 (show w < 8 by omega)]
        unfold wdA
        by_cases c0 : y = 0
        · rw [if_pos c0, if_pos c0, if_pos (Or.inl c0)]
        · rw [if_neg c0, if_neg c0]
          by_cases c1 : y = 1
          · rw [if_pos c1, if_pos c1, if_pos (Or.inr (Or.inl c1)), q_sub (by omega), show (aBk A).2.1 w - pcn (gnA A w (uO (aS A) 24)) = (lk A w (uO (aS A) 24)).length by omega]
          · rw [if_neg c1, if_neg c1]
            by_cases c2 : y = 2
            · rw [if_pos c2, if_pos c2, if_pos (Or.inr (Or.inr (Or.inl c2)))]
            · rw [if_neg c2, if_neg c2]
              by_cases c3 : y = 3
              · rw [if_pos c3, if_pos c3, if_pos (Or.inr (Or.inr (Or.inr c3)))]
              · rw [if_neg c3, if_neg c3, if_neg (by rintro (z | z | z | z) <;> contradiction)]
      by_cases c : y = 0 ∨ y = 1 ∨ y = 2 ∨ y = 3
      · rw [if_pos c] at e0
        exact ⟨I, L, e0, hi, fun _ _ => rfl, rfl⟩
      · rw [if_neg c] at e0
        exact ⟨K, L, e0, hi.q (t := aRw A) f1 (hi.2.1.of (by rw [x1 3 (by simp)]) rfl), f1.hi, rfl⟩
    · have ht := hi.th
      have hB := ht.2.2.1
      have hl := hB.2.2 w (by omega)
      obtain ⟨I0, hI0⟩ : ∃ J, J = ev_up I 139 0 0 := ⟨_, rfl⟩
      rw [← hI0] at ht hB hl
      -- the letters
      have l1 : ev_at (d + 99) M_Mo_word 41 [.ref 139, .int (nI w), .int y, .int (nI (lAt ((aBk A).2.2 w) 255 0)), .int (nI (lAt ((aBk A).2.2 w) (uO (aS A) w) 0)), .int 0, .int (nI 0), .float 0] [] (ev_mk h I0 L) = ev_at (d + 99) M_Mo_word 109 [.ref 139, .int (nI w), .int y, .int (nI (lAt ((aBk A).2.2 w) 255 ((aBk A).2.1 w))), .int (nI (lAt ((aBk A).2.2 w) (uO (aS A) w) ((aBk A).2.1 w))), .int (nI (sameA A w 0)), .int (nI 0), .float 0] [] (ev_mk h I0 L) := by
        refine lpE (F := fun i (_ : Unit) => ev_at (d + 99) M_Mo_word 41 [.ref 139, .int (nI w), .int y, .int (nI (lAt ((aBk A).2.2 w) 255 i)), .int (nI (lAt ((aBk A).2.2 w) (uO (aS A) w) i)), .int 0, .int (nI i), .float 0] [] (ev_mk h I0 L)) (fun _ _ => True) (fun o => o = ev_at (d + 99) M_Mo_word 109 [.ref 139, .int (nI w), .int y, .int (nI (lAt ((aBk A).2.2 w) 255 ((aBk A).2.1 w))), .int (nI (lAt ((aBk A).2.2 w) (uO (aS A) w) ((aBk A).2.1 w))), .int (nI (sameA A w 0)), .int (nI 0), .float 0] [] (ev_mk h I0 L)) ((aBk A).2.1 w) ?_ ?_ 0 (by omega) () trivial
        · intro i _ hi' _
          refine Or.inl ⟨(), ?_, trivial⟩
          have ht8 := (hl.2.2 i hi').2
          rw [lAt, lAt, b255 i (by omega), e_Mo_word_41]
          cases hb : (uO (aS A) w).testBit i with
          | true => simp (disch := first | omega | assumption) only [hl.1, (hl.2.2 i hi').1, ht.u hw frM.rf w hw', xHas (d + 98), hb, Bool.true_eq_false, k_I, k_L, k_V, k_1, k_2, k_3, q_cl, z_in, z_lt_t, z_lt_f, z_eq_t, z_eq_f, q_add, q_sub, q_mul, z_tt, z_bit, z_shl, u_at, u_c, u_j, fa_or, z_fl, z_flf, eq_self, ↓reduceIte, z_0, z_1, z_2, z_3, z_4, z_5, z_6, z_7, z_8, z_9, z_10, z_12, z_15, z_16, z_24, z_27, z_40, z_60, z_79, z_80, z_99, z_255, z_256, z_405, z_432, z_9999, z_1000000]
          | false => simp (disch := first | omega | assumption) only [hl.1, (hl.2.2 i hi').1, ht.u hw frM.rf w hw', xHas (d + 98), hb, Bool.false_eq_true, k_I, k_L, k_V, k_1, k_2, k_3, q_cl, z_in, z_lt_t, z_lt_f, z_eq_t, z_eq_f, q_add, q_sub, q_mul, z_tt, z_bit, z_shl, u_at, u_c, u_j, fa_or, z_fl, z_flf, eq_self, ↓reduceIte, z_0, z_1, z_2, z_3, z_4, z_5, z_6, z_7, z_8, z_9, z_10, z_12, z_15, z_16, z_24, z_27, z_40, z_60, z_79, z_80, z_99, z_255, z_256, z_405, z_432, z_9999, z_1000000]
        · intro _ _
          rw [e_Mo_word_41]; simp (disch := first | omega | assumption) only [hl.1, k_I, k_L, k_V, k_1, k_2, k_3, q_cl, z_in, z_lt_t, z_lt_f, z_eq_t, z_eq_f, q_add, q_sub, q_mul, z_tt, z_bit, z_shl, u_at, u_c, u_j, fa_or, z_fl, z_flf, eq_self, ↓reduceIte, z_0, z_1, z_2, z_3, z_4, z_5, z_6, z_7, z_8, z_9, z_10, z_12, z_15, z_16, z_24, z_27, z_40, z_60, z_79, z_80, z_99, z_255, z_256, z_405, z_432, z_9999, z_1000000]
          rfl
      -- the words
      have l2 : ∃ I1, ev_at (d + 99) M_Mo_word 109 [.ref 139, .int (nI w), .int y, .int (nI (lAt ((aBk A).2.2 w) 255 ((aBk A).2.1 w))), .int (nI (lAt ((aBk A).2.2 w) (uO (aS A) w) ((aBk A).2.1 w))), .int (nI (sameA A w 0)), .int (nI 0), .float 0] [] (ev_mk h I0 L) = ev_at (d + 99) M_Mo_word 109 [.ref 139, .int (nI w), .int y, .int (nI (lAt ((aBk A).2.2 w) 255 ((aBk A).2.1 w))), .int (nI (lAt ((aBk A).2.2 w) (uO (aS A) w) ((aBk A).2.1 w))), .int (nI (sameA A w (aBk A).1)), .int (nI (aBk A).1), .float 0] [] (ev_mk h I1 L) ∧ frM I0 I1 ∧ exc [153, 154] I0 I1 := by
        refine lpX (F := fun i J => ev_at (d + 99) M_Mo_word 109 [.ref 139, .int (nI w), .int y, .int (nI (lAt ((aBk A).2.2 w) 255 ((aBk A).2.1 w))), .int (nI (lAt ((aBk A).2.2 w) (uO (aS A) w) ((aBk A).2.1 w))), .int (nI (sameA A w i)), .int (nI i), .float 0] [] (ev_mk h J L)) (fun i J => frM I0 J ∧ exc [153, 154] I0 J) (aBk A).1 ?_ ?_ 0 (by omega) I0 ⟨frM.rf, exc.rf⟩
        · intro i J hi' ⟨p1, p2⟩
          have eS : sameA A w (i + 1) = sameA A w i ||| (if decide (i ≠ w) && on A w i (uO (aS A) 24) then 2 ^ i else 0) := rfl
          by_cases e : i = w
          · subst e
            refine Or.inl ⟨J, ?_, p1, p2⟩
            rw [eS, e_Mo_word_109]
            simp (disch := first | omega | assumption) only [(ht.bk p1).1, k_I, k_L, k_V, k_1, k_2, k_3, q_cl, z_in, z_lt_t, z_lt_f, z_eq_t, z_eq_f, q_add, q_sub, q_mul, z_tt, z_bit, z_shl, u_at, u_c, u_j, fa_or, z_fl, z_flf, eq_self, ↓reduceIte, z_0, z_1, z_2, z_3, z_4, z_5, z_6, z_7, z_8, z_9, z_10, z_12, z_15, z_16, z_24, z_27, z_40, z_60, z_79, z_80, z_99, z_255, z_256, z_405, z_432, z_9999, z_1000000]
            simp
          · obtain ⟨K, e1, f1, x1⟩ := xOne (h := h) (L' := L) (d + 96) hw ht p1 hw' hi' (uO (aS A) 24)
            refine Or.inl ⟨K, ?_, f1, p2.tr x1⟩
            rw [eS, e_Mo_word_109, decide_eq_true e, Bool.true_and]
            cases ho : on A w i (uO (aS A) 24) with
            | true =>
              rw [ho] at e1
              simp (disch := first | omega | assumption) only [(ht.bk p1).1, ht.st3 hw p1, e1, Bool.true_eq_false, k_I, k_L, k_V, k_1, k_2, k_3, q_cl, z_in, z_lt_t, z_lt_f, z_eq_t, z_eq_f, q_add, q_sub, q_mul, z_tt, z_bit, z_shl, u_at, u_c, u_j, fa_or, z_fl, z_flf, eq_self, ↓reduceIte, z_0, z_1, z_2, z_3, z_4, z_5, z_6, z_7, z_8, z_9, z_10, z_12, z_15, z_16, z_24, z_27, z_40, z_60, z_79, z_80, z_99, z_255, z_256, z_405, z_432, z_9999, z_1000000]
            | false =>
              rw [ho] at e1
              simp (disch := first | omega | assumption) only [(ht.bk p1).1, ht.st3 hw p1, e1, Bool.false_eq_true, k_I, k_L, k_V, k_1, k_2, k_3, q_cl, z_in, z_lt_t, z_lt_f, z_eq_t, z_eq_f, q_add, q_sub, q_mul, z_tt, z_bit, z_shl, u_at, u_c, u_j, fa_or, z_fl, z_flf, eq_self, ↓reduceIte, z_0, z_1, z_2, z_3, z_4, z_5, z_6, z_7, z_8, z_9, z_10, z_12, z_15, z_16, z_24, z_27, z_40, z_60, z_79, z_80, z_99, z_255, z_256, z_405, z_432, z_9999, z_1000000]
        · intro J ⟨p1, p2⟩
          exact ⟨J, rfl, p1, p2⟩
      obtain ⟨I1, e1, f1, x1⟩ := l2
      obtain ⟨I2, e2, x2, _⟩ := c_Mo_lays (h := h) (L := L) (d + 97) (ht.bk f1) (k := 153) (w := w) (u := uO (aS A) w) (s := uO (aS A) 24) (Or.inl rfl) (by omega)
      have e0 : ev_do (d + 100) M_Mo_word [.ref 139, .int (nI w), .int y] (ev_mk h I L) = ev_ri (wdA A w y) (ev_mk h (if y = 1 then I2 else I1) L) := by
        rw [e_Mo_word_0, ← hI0, c_Mo_isWord (d + 97) hB.1 hW, k_I, k_1, k_2, k_3, hx, if_neg (show ¬ fl true = 0 by decide), c_in4, k_I, k_1, k_2, k_3, hy, if_neg (show ¬ fl true = 0 by decide)]
        refine l1.trans (e1.trans ?_)
        rw [e_Mo_word_109, (ht.bk f1).1, if_neg (fun z => absurd ((q_lt (by omega) (by omega)).mp z) (by omega)), show ev_in (nI w) 8 = true from z_in (by omega) (by omega), show ev_in (nI w) 27 = true from z_in (by omega) (by omega)]
        simp only [↓reduceIte]
        rw [q_cl (by omega), ((ht.bk f1).2.2 w (by omega)).1, ht.u hw f1 w hw', ht.st3 hw f1, e2]
        simp only [k_I, k_1, k_2, k_3]
        unfold wdA
        by_cases c0 : y = 0
        · rw [if_pos c0, if_pos c0, if_neg (by rw [c0]; decide)]
        · rw [if_neg c0, if_neg c0]
          by_cases c1 : y = 1
          · rw [if_pos c1, if_pos c1, if_pos c1]; rfl
          · rw [if_neg c1, if_neg c1, if_neg c1]
            by_cases c2 : y = 2
            · rw [if_pos c2, if_pos c2]
            · rw [if_neg c2, if_neg c2]
              by_cases c3 : y = 3
              · rw [if_pos c3, if_pos c3]
              · rw [if_neg c3, if_neg c3]
      have f2 : frM I0 I2 := f1.x x2 (by simp [scM])
      by_cases c : y = 1
      · rw [if_pos c] at e0
        refine ⟨I2, e0, ht.q (t := aRw A) f2 (ht.2.1.of (by rw [x2 139 (by simp), x1 139 (by simp)]) rfl), fun a ha => (f2.lo a ha).trans (by rw [hI0]; exact th_lo a ha), ?_⟩
        rw [x2 139 (by simp), x1 139 (by simp), hI0, u_at]
      · rw [if_neg c] at e0
        refine ⟨I1, e0, ht.q (t := aRw A) f1 (ht.2.1.of (by rw [x1 139 (by simp)]) rfl), fun a ha => (f1.lo a ha).trans (by rw [hI0]; exact th_lo a ha), ?_⟩
        rw [x1 139 (by simp), hI0, u_at]
end OG

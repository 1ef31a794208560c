/-! Calls: letter, row. -/
section OF
variable {h : Bool × Nat × Nat} {d : Nat} {I J : Nat → Nat → Int32} {L : Nat → Nat → Int64} {A : aP}
/-- a grudge by a rule, with this offer -/
def gA (A : aP) (R : Nat × (Nat → Nat)) (l : Nat) (off : Int32) : Int32 := (rrun (thg (aS A (8 + l)) off (sgn (aBk A).2.1 (aBk A).2.2 (uO (aS A)) l true (aBk A).1) (sgn (aBk A).2.1 (aBk A).2.2 (uO (aS A)) l false (aBk A).1) (pcn (uO (aS A) 24)) (aS A 25) l) R.2 R.1).getLastD 0
/-- the tally is as the picture has it -/
def tly (A : aP) (J : Nat → Nat → Int32) : Prop := ∀ l, l < 8 → J 112 l = nI (sgn (aBk A).2.1 (aBk A).2.2 (uO (aS A)) l true (aBk A).1) ∧ J 113 l = nI (sgn (aBk A).2.1 (aBk A).2.2 (uO (aS A)) l false (aBk A).1)
theorem sg_le (hw : wfA A) (l : Nat) (b : Bool) : sgn (aBk A).2.1 (aBk A).2.2 (uO (aS A)) l b (aBk A).1 ≤ 64 := by
  have hW := hw.2.2.1.1
  have := sgn_le (len := (aBk A).2.1) (lt := (aBk A).2.2) (u := uO (aS A)) (l := l) (b := b) (n := (aBk A).1) (fun w hw' => (hw.2.2.1.2 w (by omega)).1)
  omega
theorem xTl (d : Nat) (hw : wfA A) (hi : invC I L A) (f : frC I J) {L' : Nat → Nat → Int64} : ∃ K, ev_do (d + 2) M_Union_tally [.ref 109, .ref 17] (ev_mk h J L') = ev_rn (ev_mk h K L') ∧ frC I K ∧ exc [112, 113] J K ∧ tly A K := by
  obtain ⟨K, e1, x1, f1⟩ := c_Union_tally (h := h) (L := L') d (hi.bk f).1 (Or.inl rfl : 17 = 17 ∨ 17 = 21) (hi.u hw f)
  exact ⟨K, e1, f.x x1 (by simp [scC]), x1, f1⟩
theorem xGr (d : Nat) (hw : wfA A) (hi : invC I L A) (f : frC I J) (ht : tly A J) {l : Nat} (hl : l < 8) (off : Int32) {L' : Nat → Nat → Int64} : ∃ K, ev_do (d + 3) M_Union_grudge [.ref 109, .ref 101, .ref 17, .int (nI l), .int off] (ev_mk h J L') = ev_ri (gA A (aRl A) l off) (ev_mk h K L') ∧ frC I K ∧ tly A K ∧ exc [111, 101, 103] J K := by
  obtain ⟨K, e1, x1, n1⟩ := c_Union_grudge (h := h) (L := L') (off := off) d (Or.inl rfl : 101 = 101 ∨ 101 = 105) (Or.inl rfl : 17 = 17 ∨ 17 = 21) hl (hi.rl f) hw.2.2.2.2.1 (ht l hl).1 (ht l hl).2 (hi.st3 hw f) hw.2.2.2.1.s.2
  have hs := hi.s f
  rw [(hs.1 l hl).2.1, hs.2.2.1] at e1
  refine ⟨K, e1, f.tr (frC.of x1 (by simp [scC]) (n1 1 (by omega)) (by simp)), fun k hk => ?_, x1⟩
  rw [x1 112 (by simp), x1 113 (by simp)]
  exact ht k hk
theorem xGm (d : Nat) (hw : wfA A) (hi : invM I L A) (f : frM I J) {l : Nat} (hl : l < 8) (off : Int32) {L' : Nat → Nat → Int64} : ∃ K, ev_do (d + 4) M_Mo_grudgeAt [.ref 139, .ref 143, .int (nI l), .int off] (ev_mk h J L') = ev_ri (gA A (aRl A) l off) (ev_mk h K L') ∧ frM I K ∧ exc [151, 152] J K := by
  obtain ⟨K, e1, x1⟩ := c_Mo_grudgeAt (h := h) (L := L') (off := off) d (hi.bk f) (Or.inl rfl : 143 = 143 ∨ 143 = 144) hl (hi.u hw f) (hi.rl f) hw.2.2.2.2.1 (hi.st3 hw f) hw.2.2.2.1.s.2
  have hs := hi.s f
  rw [hs.at (show 8 + l < 27 by omega), hs.at (show 25 < 27 by omega)] at e1
  exact ⟨K, e1, f.x x1 (by simp [scM]), x1⟩
theorem xGo (d : Nat) (hw : wfA A) (hi : invM I L A) (f : frM I J) {l : Nat} (hl : l < 8) {L' : Nat → Nat → Int64} : ∃ K, ev_do (d + 5) M_Mo_grudge [.ref 139, .ref 143, .int (nI l)] (ev_mk h J L') = ev_ri (gA A (aRl A) l (aS A (16 + l))) (ev_mk h K L') ∧ frM I K ∧ exc [151, 152] J K := by
  obtain ⟨K, e1, f1, x1⟩ := xGm (h := h) (L' := L') d hw hi f hl (aS A (16 + l))
  refine ⟨K, ?_, f1, x1⟩
  have e16 : (16 : Int32) + nI l = nI (16 + l) := q_add 16 l
  rw [e_Mo_grudge_0 _ _ (Or.inl rfl), e16, q_in (by omega), if_pos (by simp <;> omega), q_cl (by omega), (hi.s f).at (by omega), e1, k_I, k_1, k_2, k_3]
theorem xSo (d : Nat) (hw : wfA A) (hi : invM I L A) (f : frM I J) {l : Nat} (hl : l < 8) (b : Bool) {L' : Nat → Nat → Int64} : ev_do (d + 2) M_Mo_signsOf [.ref 139, .ref 143, .int (nI l), .int (fl b)] (ev_mk h J L') = ev_ri (nI (sgn (aBk A).2.1 (aBk A).2.2 (uO (aS A)) l b (aBk A).1)) (ev_mk h J L') := c_Mo_signsOf d (hi.bk f) (Or.inl rfl) hl (hi.u hw f)
theorem xHas (d : Nat) {n j : Nat} (hj : j < 32) : ev_do (d + 1) M_Mo_has [.int (nI n), .int (nI j)] (ev_mk h I L) = ev_ri (fl (n.testBit j)) (ev_mk h I L) := c_Mo_has d hj
def ltA (A : aP) (l : Nat) (y : Int32) : Int32 := if y = 0 then aS A (8 + l) else if y = 1 then aS A (16 + l) else if y = 2 then nI (sgn (aBk A).2.1 (aBk A).2.2 (uO (aS A)) l true (aBk A).1) else if y = 3 then nI (sgn (aBk A).2.1 (aBk A).2.2 (uO (aS A)) l false (aBk A).1) else if y = 4 then fl ((uO (aS A) 24).testBit l) else gA A (aRl A) l (aS A (16 + l))
theorem op_letter {x y : Int32} (hi : inv I L) : okX h d M_SL_letter M_Mo_letter [.int x, .int y] I L := by
  refine okX_of (fun A hw => ?_) hi
  have no : (blw x 8 && blw y 6) = false → ((∀ I L, invC I L A → ev_do (d + 100) M_SL_letter (.ref 0 :: [.int x, .int y]) (ev_mk h I L) = some (none, ev_mk (false, h.2.1 + 1, h.2.2 + 6) I L)) ∧ ∃ v, hfT (false, h.2.1 + 1, h.2.2 + 6) d M_Mo_letter [.int x, .int y] A A v 1) := by
    intro hxy
    refine ⟨fun I L hi => ?_, 0, fun I L hi => ⟨_, ?_, hi.t1, t1_lo, u_at _ _ _ _⟩⟩
    · rw [e_SL_letter_0, c_SL_isLetter, k_I, k_1, k_2, k_3, show (5 : Int32) = nI 5 from rfl, r_two (by omega), e_SL_letter_16]
      cases hx : blw x 8 with
      | false => rw [if_pos (show fl false = 0 from rfl)]
      | true =>
        rw [hx, Bool.true_and] at hxy
        rw [if_neg (show ¬ fl true = 0 by decide), hxy, if_neg (by decide)]
    · rw [e_Mo_letter_0, c_Mo_isLetter, k_I, k_1, k_2, k_3, e_Mo_refuse_0]
      cases hx : blw x 8 with
      | false => rw [if_pos (show fl false = 0 from rfl), k_I, k_1, k_2, k_3]
      | true =>
        rw [hx, Bool.true_and] at hxy
        rw [if_neg (show ¬ fl true = 0 by decide), c_in5, k_I, k_1, k_2, k_3, hxy, if_pos (show fl false = 0 from rfl), e_Mo_refuse_0, k_I, k_1, k_2, k_3]
  cases hxy : blw x 8 && blw y 6 with
  | false => exact Or.inr (no hxy)
  | true =>
    rw [Bool.and_eq_true] at hxy
    obtain ⟨hx, hy⟩ := hxy
    obtain ⟨l, hl, rfl⟩ := (blw_iff (by omega)).mp hx
    refine Or.inl ⟨ltA A l y, A, hw, fun I L hi => ?_, fun I L hi => ?_⟩
    · obtain ⟨I1, e1, f1, x1, t1⟩ := xTl (h := h) (L' := L) (d + 97) hw hi frC.rf
      obtain ⟨I2, e2, f2, t2, x2⟩ := xGr (h := h) (L' := L) (d + 96) hw hi f1 t1 hl (aS A (16 + l))
      have hs := hi.s f1
      have e0 : ev_do (d + 100) M_SL_letter [.ref 0, .int (nI l), .int y] (ev_mk h I L) = ev_ri (ltA A l y) (ev_mk h (if y = 0 ∨ y = 1 ∨ y = 2 ∨ y = 3 ∨ y = 4 then I1 else I2) L) := by
        rw [e_SL_letter_0, c_SL_isLetter, k_I, k_1, k_2, k_3, hx, if_neg (show ¬ fl true = 0 by decide), show (5 : Int32) = nI 5 from rfl, r_two (by omega), hy, if_pos rfl, e1, k_V, k_1, k_2, k_3, show ev_in (nI l) 8 = true from z_in hl (by omega)]
        simp only [↓reduceIte]
        rw [q_cl (by omega), (hs.1 l hl).2.1, (hs.1 l hl).2.2, (t1 l hl).1, (t1 l hl).2, hi.st3 hw f1, x_bit (by omega), e2]
        unfold ltA
        by_cases c0 : y = 0
        · rw [if_pos c0, if_pos c0, if_pos (Or.inl c0)]
        · rw [if_neg c0, if_neg c0]
          by_cases c1 : y = 1
          · rw [if_pos c1, if_pos c1, if_pos (Or.inr (Or.inl c1))]
          · rw [if_neg c1, if_neg c1]
            by_cases c2 : y = 2
            · rw [if_pos c2, if_pos c2, if_pos (Or.inr (Or.inr (Or.inl c2)))]
            · rw [if_neg c2, if_neg c2]
              by_cases c3 : y = 3
              · rw [if_pos c3, if_pos c3, if_pos (Or.inr (Or.inr (Or.inr (Or.inl c3))))]
              · rw [if_neg c3, if_neg c3]
                by_cases c4 : y = 4
                · rw [if_pos c4, if_pos c4, if_pos (Or.inr (Or.inr (Or.inr (Or.inr c4))))]; rfl
                · rw [if_neg c4, if_neg c4, k_I, k_1, k_2, k_3, if_neg (by rintro (z | z | z | z | z) <;> contradiction)]
      by_cases c : y = 0 ∨ y = 1 ∨ y = 2 ∨ y = 3 ∨ y = 4
      · rw [if_pos c] at e0
        exact ⟨I1, L, e0, hi.q (t := aRw A) f1 (hi.2.1.of (by rw [x1 3 (by simp)]) rfl), f1.hi, rfl⟩
      · rw [if_neg c] at e0
        exact ⟨I2, L, e0, hi.q (t := aRw A) f2 (hi.2.1.of (by rw [x2 3 (by simp), x1 3 (by simp)]) rfl), f2.hi, rfl⟩
    · have ht := hi.th
      obtain ⟨I2, e2, f2, x2⟩ := xGo (h := h) (L' := L) (d + 94) hw ht frM.rf hl
      have e8 : (8 : Int32) + nI l = nI (8 + l) := q_add 8 l
      have e16 : (16 : Int32) + nI l = nI (16 + l) := q_add 16 l
      have e0 : ev_do (d + 100) M_Mo_letter [.ref 139, .int (nI l), .int y] (ev_mk h I L) = ev_ri (ltA A l y) (ev_mk h (if y = 0 ∨ y = 1 ∨ y = 2 ∨ y = 3 ∨ y = 4 then ev_up I 139 0 0 else I2) L) := by
        rw [e_Mo_letter_0, c_Mo_isLetter, k_I, k_1, k_2, k_3, hx, if_neg (show ¬ fl true = 0 by decide), c_in5, k_I, k_1, k_2, k_3, hy, if_neg (show ¬ fl true = 0 by decide), show (.int 1 : Value) = .int (fl true) from rfl, show (.int 0 : Value) = .int (fl false) from rfl, e8, e16, q_in (a := 8 + l) (by omega), if_pos (c := decide (8 + l < 27) = true) (by simp <;> omega), q_in (a := 16 + l) (by omega), if_pos (c := decide (16 + l < 27) = true) (by simp <;> omega), q_cl (a := 8 + l) (by omega), q_cl (a := 16 + l) (by omega), ht.2.2.2.1.at (show 8 + l < 27 by omega), ht.2.2.2.1.at (show 16 + l < 27 by omega), xSo (d + 97) hw ht frM.rf hl true, xSo (d + 97) hw ht frM.rf hl false, ht.st3 hw frM.rf]
        simp only [xHas (d + 98) (show l < 32 by omega), c_Mo_flag (d + 98), e2, k_I, k_1, k_2, k_3]
        unfold ltA
        by_cases c0 : y = 0
        · rw [if_pos c0, if_pos c0, if_pos (Or.inl c0)]
        · rw [if_neg c0, if_neg c0]
          by_cases c1 : y = 1
          · rw [if_pos c1, if_pos c1, if_pos (Or.inr (Or.inl c1))]
          · rw [if_neg c1, if_neg c1]
            by_cases c2 : y = 2
            · rw [if_pos c2, if_pos c2, if_pos (Or.inr (Or.inr (Or.inl c2)))]
            · rw [if_neg c2, if_neg c2]
              by_cases c3 : y = 3
              · rw [if_pos c3, if_pos c3, if_pos (Or.inr (Or.inr (Or.inr (Or.inl c3))))]
              · rw [if_neg c3, if_neg c3]
                by_cases c4 : y = 4
                · rw [if_pos c4, if_pos c4, if_pos (Or.inr (Or.inr (Or.inr (Or.inr c4))))]
                · rw [if_neg c4, if_neg c4, if_neg (by rintro (z | z | z | z | z) <;> contradiction)]
      by_cases c : y = 0 ∨ y = 1 ∨ y = 2 ∨ y = 3 ∨ y = 4
      · rw [if_pos c] at e0
        exact ⟨_, e0, ht, th_lo, u_at _ _ _ _⟩
      · rw [if_neg c] at e0
        refine ⟨I2, e0, ht.q (t := aRw A) f2 (ht.2.1.of (by rw [x2 139 (by simp)]) rfl), fun a ha => (f2.lo a ha).trans (th_lo a ha), ?_⟩
        rw [x2 139 (by simp), u_at]
/-- row: as a long -/
theorem op_row {x : Int32} (hi : inv I L) : (∃ v, ev_do (d + 100) M_SL_row [.ref 0, .int x] (ev_mk h I L) = ev_rl v (ev_mk h I L) ∧ ∀ y, ∃ I2, ev_do (d + 100) M_Mo_row [.ref 139, .int x] (ev_mk h I (ev_up L 174 0 y)) = ev_rl v (ev_mk h I2 (ev_up L 174 0 y)) ∧ I2 139 0 = 0 ∧ inv I2 (ev_up L 174 0 y)) ∨ (ev_do (d + 100) M_SL_row [.ref 0, .int x] (ev_mk h I L) = some (none, ev_mk (false, h.2.1 + 1, h.2.2 + 6) I L) ∧ ∃ v I2, ev_do (d + 100) M_Mo_row [.ref 139, .int x] (ev_mk (false, h.2.1 + 1, h.2.2 + 6) I L) = ev_rl v (ev_mk (false, h.2.1 + 1, h.2.2 + 6) I2 L) ∧ I2 139 0 = 1 ∧ inv I2 L) := by
  obtain ⟨A, hw, hC, hM⟩ := hi
  have h9 := hw.2.1
  cases hx : blw x (aRw A).1 with
  | false =>
    refine Or.inr ⟨?_, 0, _, ?_, u_at _ _ _ _, A, hw, hC.rest t1_lo rfl, hM.t1⟩
    · rw [e_SL_row_0, e_SL_row_15, hC.2.1.1]
      rcases blw_f hx with h1 | ⟨h1, h2⟩
      · rw [if_pos h1]
      · rw [if_neg h1, if_neg h2]
    · rw [e_Mo_row_0, hM.2.1.1, c_inm (d + 98) (by omega), k_I, k_1, k_2, k_3, hx, if_pos (show fl false = 0 from rfl)]
  | true =>
    obtain ⟨k, hk, rfl⟩ := (blw_iff (by omega)).mp hx
    refine Or.inl ⟨(aRw A).2 k, ?_, fun y => ⟨ev_up I 139 0 0, ?_, u_at _ _ _ _, A, hw, hC.rest th_lo (u_cf (by omega)), hM.th.rest (fun _ _ => rfl) (u_cf (by omega))⟩⟩
    · rw [e_SL_row_0, if_neg (q_nn (by omega)), hC.2.1.1, if_pos ((q_lt (by omega) (by omega)).mpr hk), q_in (by omega), if_pos (by simp <;> omega), q_cl (by omega), hC.2.1.2 k hk]
    · rw [e_Mo_row_0, hM.2.1.1, c_inm (d + 98) (by omega), k_I, k_1, k_2, k_3, hx, if_neg (show ¬ fl true = 0 by decide), q_in (by omega), if_pos (by simp <;> omega), q_cl (by omega), u_c (by omega), hM.2.1.2 k hk]
end OF

/-! A day goes by, the reference. -/
section DM
variable {h : Bool × Nat × Nat} {I : Nat → Nat → Int32} {L : Nat → Nat → Int64} {W : Nat} {len : Nat → Nat} {lt : Nat → Nat → Nat}
theorem c_dayGoes (d : Nat) (hB : bkM I W len lt) {c n : Nat} {T : Nat → Nat} {s : Nat → Int32} (hc : c = 143 ∨ c = 144) (hS : mSt c 0 I s) (hw : wfS len s) (hR : rlM2 I T n) (hT : okT T n) : ∃ I', ev_do (d + 7) M_Mo_dayGoes [.ref 139, .ref c] (ev_mk h I L) = ev_ri (nI (dayF W len lt T n s)) (ev_mk h I' L) ∧ exc [c, 151, 152, 153, 154] I I' ∧ mSt c 0 I' (dayS W len lt T n s) := by
  have hW8 := hB.2.1
  have hS' : ∀ j, j < 27 → I c j = s j := fun j hj => by have := hS j hj; rwa [Nat.zero_add] at this
  have hu : ∀ w, w < W → I c w = nI (uO s w) := fun w hw' => (hS' w (by omega)).trans (hw.u (by omega)).1
  have e1 := c_Mo_unsaid (h := h) (L := L) (d + 3) hB hc hu
  obtain ⟨I2, e2, x2⟩ := c_Mo_strikeNext (h := h) (L := L) d hB hc hu hR hT ((hS' 24 (by omega)).trans hw.s.1) hw.s.2
  have est : msk (sks len lt W (uO s) (fun l => I c (8 + l)) (fun l => I c (16 + l)) (uO s 24) (I c 25) T n) 8 = stN W len lt T n s := by
    refine msk_congr fun j hj => ?_
    unfold sks grd
    simp only [hS' (8 + j) (by omega), hS' (16 + j) (by omega), hS' 25 (by omega)]
  rw [est] at e2
  have hst8 := stN_lt W len lt T n s
  have hdf := dayF_le (len := len) (lt := lt) (T := T) (n := n) (s := s) hW8
  unfold dayF at hdf ⊢
  generalize hst : stN W len lt T n s = st at *
  obtain ⟨J2, hJ2⟩ : ∃ J, J = ev_up I2 c 24 (nI st) := ⟨_, rfl⟩
  have xJ2 : exc [c, 151, 152] I J2 := by rw [hJ2]; exact (x2.mono (by simp)).up (by simp)
  have hu2 : ∀ w, w < W → J2 c w = nI (uO s w) := fun w hw' => by rw [hJ2, u_j (by omega), x2 c (by simp <;> omega)]; exact hu w hw'
  obtain ⟨I3, e3, x3⟩ := c_Mo_fallen (h := h) (L := L) (s := st) (d + 2) (hB.ex xJ2 (by simp <;> omega) (by simp <;> omega) (by simp <;> omega)) hc hu2
  have xI3 : exc [c, 151, 152, 153, 154] I I3 := (xJ2.mono (by simp <;> omega)).tr (x3.mono (by simp <;> omega))
  have hI3 : ∀ j, j < 27 → I3 c j = if j = 24 then nI st else s j := fun j hj => by
    rw [x3 c (by simp <;> omega), hJ2]
    by_cases e : j = 24
    · rw [e, u_at, if_pos rfl]
    · rw [u_j e, if_neg e, x2 c (by simp <;> omega), hS' j hj]
  have h5 : I3 c 26 = nI (uO s 26) := by rw [hI3 26 (by omega), if_neg (by omega)]; exact hw.f.1
  have hf1 := hw.f.2
  have e0 : ev_do (d + 7) M_Mo_dayGoes [.ref 139, .ref c] (ev_mk h I L) = ev_at (d + 6) M_Mo_dayGoes 45 [.float 0, .ref c, .int (nI (uns len lt (uO s) W)), .int (nI st), .int (nI (dFl W len lt s st)), .int (nI 0), .float 0] [] (ev_mk h (ev_up I3 c 26 (nI (min (uO s 26 + dFl W len lt s st) 9999))) L) := by
    rw [e_Mo_dayGoes_0 _ hc, e1, k_I, k_1, k_2, k_3, e2, k_I, k_1, k_2, k_3, ← hJ2, e3, k_I, k_1, k_2, k_3, h5, q_add, show (9999 : Int32) = nI 9999 from rfl]
    unfold dFl at hdf ⊢
    rw [z_min (by omega) (by omega)]
    rfl
  rw [e0]
  refine lpX (F := fun i J => ev_at (d + 6) M_Mo_dayGoes 45 [.float 0, .ref c, .int (nI (uns len lt (uO s) W)), .int (nI st), .int (nI (dFl W len lt s st)), .int (nI i), .float 0] [] (ev_mk h J L)) (fun i J => exc [c, 151, 152, 153, 154] I J ∧ ∀ j, j < 27 → J c j = if 8 ≤ j ∧ j < 8 + i then nI (dMd W len lt s st (j - 8)) else if j = 24 then nI st else if j = 26 then nI (min (uO s 26 + dFl W len lt s st) 9999) else s j) 8 ?_ ?_ 0 (by omega) _ ⟨xI3.up (by simp), fun j hj => ?_⟩
  · intro i J hi ⟨p1, p2⟩
    have qm : J c (8 + i) = nI (uO s (8 + i)) := by
      rw [p2 (8 + i) (by omega), if_neg (by omega), if_neg (by omega), if_neg (by omega)]
      exact (hw.m (by omega)).1
    have hm9 := (hw.m (w := i) (by omega)).2
    have hbit : (uns len lt (uO s) W).testBit i = decide (0 < sgn len lt (uO s) i true W) := by
      unfold uns
      rw [msk_bit, decide_eq_true (show i < 8 by omega)]; simp
    have c1 := c_Mo_has (h := h) (I := J) (L := L) (d + 5) (n := st) (j := i) (by omega)
    have c2 := c_Mo_has (h := h) (I := J) (L := L) (d + 5) (n := uns len lt (uO s) W) (j := i) (by omega)
    rw [show (if st.testBit i then (1 : Int32) else 0) = fl (st.testBit i) from rfl] at c1
    rw [hbit, show (if decide (0 < sgn len lt (uO s) i true W) = true then (1 : Int32) else 0) = fl (decide (0 < sgn len lt (uO s) i true W)) from rfl] at c2
    refine Or.inl ⟨ev_up J c (8 + i) (nI (dMd W len lt s st i)), ?_, p1.up (by simp), fun j hj => ?_⟩
    · unfold dMd
      cases hb : st.testBit i with
      | true =>
        rw [hb] at c1
        rw [e_Mo_dayGoes_45 (hk1 := hc)]; simp (disch := first | omega | assumption) only [c1, Bool.true_eq_false, k_I, k_L, k_V, k_1, k_2, k_3, q_cl, z_in, z_lt_t, z_lt_f, z_eq_t, z_eq_f, q_add, q_sub, q_mul, z_tt, z_bit, z_shl, u_at, u_c, u_j, fa_or, z_fl, z_flf, eq_self, ↓reduceIte, z_0, z_1, z_2, z_3, z_4, z_5, z_6, z_7, z_8, z_9, z_10, z_12, z_15, z_16, z_24, z_27, z_40, z_60, z_79, z_80, z_99, z_255, z_256, z_405, z_432, z_9999, z_1000000]; rw [e_Mo_dayGoes_75 (hk1 := hc)]; simp (disch := first | omega | assumption) only [qm, md_dm, k_I, k_L, k_V, k_1, k_2, k_3, q_cl, z_in, z_lt_t, z_lt_f, z_eq_t, z_eq_f, q_add, q_sub, q_mul, z_tt, z_bit, z_shl, u_at, u_c, u_j, fa_or, z_fl, z_flf, eq_self, ↓reduceIte, z_0, z_1, z_2, z_3, z_4, z_5, z_6, z_7, z_8, z_9, z_10, z_12, z_15, z_16, z_24, z_27, z_40, z_60, z_79, z_80, z_99, z_255, z_256, z_405, z_432, z_9999, z_1000000]
      | false =>
        rw [hb] at c1
        rw [e_Mo_dayGoes_45 (hk1 := hc)]; simp (disch := first | omega | assumption) only [c1, c2, c_Mo_flag, k_I, k_L, k_V, k_1, k_2, k_3, q_cl, z_in, z_lt_t, z_lt_f, z_eq_t, z_eq_f, q_add, q_sub, q_mul, z_tt, z_bit, z_shl, u_at, u_c, u_j, fa_or, z_fl, z_flf, eq_self, ↓reduceIte, z_0, z_1, z_2, z_3, z_4, z_5, z_6, z_7, z_8, z_9, z_10, z_12, z_15, z_16, z_24, z_27, z_40, z_60, z_79, z_80, z_99, z_255, z_256, z_405, z_432, z_9999, z_1000000]; rw [e_Mo_dayGoes_75 (hk1 := hc)]; simp (disch := first | omega | assumption) only [qm, md_um, Bool.false_eq_true, k_I, k_L, k_V, k_1, k_2, k_3, q_cl, z_in, z_lt_t, z_lt_f, z_eq_t, z_eq_f, q_add, q_sub, q_mul, z_tt, z_bit, z_shl, u_at, u_c, u_j, fa_or, z_fl, z_flf, eq_self, ↓reduceIte, z_0, z_1, z_2, z_3, z_4, z_5, z_6, z_7, z_8, z_9, z_10, z_12, z_15, z_16, z_24, z_27, z_40, z_60, z_79, z_80, z_99, z_255, z_256, z_405, z_432, z_9999, z_1000000]
    · by_cases e : j = 8 + i
      · subst e
        rw [u_at, if_pos (by omega), show 8 + i - 8 = i by omega]
      · rw [u_j e, p2 j hj]
        by_cases e2 : 8 ≤ j ∧ j < 8 + i
        · rw [if_pos e2, if_pos (c := 8 ≤ j ∧ j < 8 + (i + 1)) (by omega)]
        · rw [if_neg e2, if_neg (c := 8 ≤ j ∧ j < 8 + (i + 1)) (by omega)]
  · intro J ⟨p1, p2⟩
    have q4 : J c 25 = s 25 := p2 25 (by omega)
    refine ⟨ev_up J c 25 (s 25 + nI 1), ?_, p1.up (by simp), fun j hj => ?_⟩
    · rw [e_Mo_dayGoes_45 (hk1 := hc)]; simp (disch := first | omega | assumption) only [q4, k_I, k_L, k_V, k_1, k_2, k_3, q_cl, z_in, z_lt_t, z_lt_f, z_eq_t, z_eq_f, q_add, q_sub, q_mul, z_tt, z_bit, z_shl, u_at, u_c, u_j, fa_or, z_fl, z_flf, eq_self, ↓reduceIte, z_0, z_1, z_2, z_3, z_4, z_5, z_6, z_7, z_8, z_9, z_10, z_12, z_15, z_16, z_24, z_27, z_40, z_60, z_79, z_80, z_99, z_255, z_256, z_405, z_432, z_9999, z_1000000]
    · rw [Nat.zero_add]
      unfold dayS
      rw [hst]
      by_cases e : j = 25
      · subst e; rw [u_at]; rfl
      · rw [u_j e, p2 j hj]
        by_cases c1 : j < 8
        · rw [if_neg (by omega), if_neg (by omega), if_neg (by omega), if_pos c1]
        · by_cases c2 : j < 16
          · rw [if_pos (by omega), if_neg c1, if_pos c2]
          · rw [if_neg (by omega), if_neg c1, if_neg c2]
            by_cases c3 : j < 24
            · rw [if_neg (by omega), if_neg (by omega), if_pos c3]
            · by_cases c4 : j = 24
              · rw [if_pos c4, if_neg c3, if_pos c4]
              · rw [if_neg c4, if_pos (by omega), if_neg c3, if_neg c4, if_neg e]
  · rw [if_neg (by omega)]
    by_cases e : j = 26
    · subst e; rw [u_at]; rfl
    · rw [u_j e, hI3 j hj]
      by_cases e2 : j = 24
      · rw [if_pos e2, if_pos e2]
      · rw [if_neg e2, if_neg e2, if_neg e]
end DM

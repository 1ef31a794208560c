/-! What can be undone, what is kept: the reference. -/
theorem uM.ex {ks : List Nat} {I J : Nat → Nat → Int32} {b : Nat} {U : Nat → Nat → Int32} (hU : uM I b U) (hx : exc ks I J) (h1 : J 139 26 = I 139 26) (h2 : 155 ∉ ks) : uM J b U := ⟨h1.trans hU.1, hU.2.1, fun i hi => (hU.2.2 i hi).ex hx h2⟩
theorem kM.ex {ks : List Nat} {I J : Nat → Nat → Int32} {ch : Nat} {kp : Nat → Bool} {K : Nat → Nat → Int32} (hK : kM I ch kp K) (hx : exc ks I J) (h0 : J 139 4 = I 139 4) (h1 : 171 ∉ ks) (h2 : 172 ∉ ks) (h3 : 173 ∉ ks) : kM J ch kp K := by
  refine ⟨h0.trans hK.1, fun i hi => ?_⟩
  obtain ⟨q, kc, k1, k2, k3, k4, k5⟩ := hK.2 i hi
  exact ⟨q, kc, by rw [hx 171 h1]; exact k1, by rw [hx 172 h2]; exact k2, k3, k4, fun z => (k5 z).ex hx h3⟩
section PM
variable {h : Bool × Nat × Nat} {I : Nat → Nat → Int32} {L : Nat → Nat → Int64}
theorem c_putsBy (d : Nat) {b : Nat} {U : Nat → Nat → Int32} {s : Nat → Int32} (hU : uM I b U) (hs : mSt 143 0 I s) : ∃ I', ev_do (d + 1) M_Mo_putsBy [.ref 139] (ev_mk h I L) = ev_rn (ev_mk h I' L) ∧ exc [155] I I' ∧ uM I' b U ∧ mSt 155 (27 * b) I' s := by
  have hb := hU.2.1
  rw [e_Mo_putsBy_0]
  refine lpX (F := fun i J => ev_at d M_Mo_putsBy 2 [.ref 139, .int (nI i)] [] (ev_mk h J L)) (fun i J => exc [155] I J ∧ ∀ j, J 155 j = if 27 * b ≤ j ∧ j < 27 * b + i then s (j - 27 * b) else I 155 j) 27 ?_ ?_ 0 (by omega) _ ⟨exc.rf, fun j => (if_neg (by omega)).symm⟩
  · intro i J hi ⟨p1, p2⟩
    have j26 : J 139 26 = nI b := by rw [p1 139 (by simp)]; exact hU.1
    have j143 : J 143 i = s i := by rw [p1 143 (by simp)]; exact hs.at hi
    refine Or.inl ⟨ev_up J 155 (27 * b + i) (s i), ?_, p1.up (by simp), fun j => ?_⟩
    · rw [e_Mo_putsBy_2]; simp (disch := first | omega | assumption) only [j26, j143, k_I, k_L, k_V, k_1, k_2, k_3, q_cl, z_in, z_lt_t, z_lt_f, z_eq_t, z_eq_f, q_add, q_sub, q_mul, z_tt, z_bit, z_shl, u_at, u_c, u_j, fa_or, z_fl, z_flf, eq_self, ↓reduceIte, z_0, z_1, z_2, z_3, z_4, z_5, z_6, z_7, z_8, z_9, z_10, z_12, z_15, z_16, z_24, z_27, z_40, z_60, z_79, z_80, z_99, z_255, z_256, z_405, z_432, z_9999, z_1000000]
    · by_cases e : j = 27 * b + i
      · subst e; rw [u_at, if_pos (by omega), show 27 * b + i - 27 * b = i by omega]
      · rw [u_j e, p2 j]
        by_cases e2 : 27 * b ≤ j ∧ j < 27 * b + i
        · rw [if_pos e2, if_pos (by omega)]
        · rw [if_neg e2, if_neg (by omega)]
  · intro J ⟨p1, p2⟩
    refine ⟨J, ?_, p1, ⟨by rw [p1 139 (by simp)]; exact hU.1, hb, fun i hi j hj => ?_⟩, fun j hj => ?_⟩
    · rw [e_Mo_putsBy_2]; simp (disch := first | omega | assumption) only [k_I, k_L, k_V, k_1, k_2, k_3, q_cl, z_in, z_lt_t, z_lt_f, z_eq_t, z_eq_f, q_add, q_sub, q_mul, z_tt, z_bit, z_shl, u_at, u_c, u_j, fa_or, z_fl, z_flf, eq_self, ↓reduceIte, z_0, z_1, z_2, z_3, z_4, z_5, z_6, z_7, z_8, z_9, z_10, z_12, z_15, z_16, z_24, z_27, z_40, z_60, z_79, z_80, z_99, z_255, z_256, z_405, z_432, z_9999, z_1000000]
    · rw [p2, if_neg (by omega)]; exact hU.2.2 i hi j hj
    · rw [p2, if_pos (by omega), show 27 * b + j - 27 * b = j by omega]
theorem c_adds (d : Nat) {b : Nat} {U : Nat → Nat → Int32} {t : Nat → Int32} {x : Int32} (hU : uM I b U) (ht : mSt 155 (27 * b) I t) : ∃ I', ev_do (d + 1) M_Mo_adds [.ref 139, .int x] (ev_mk h I L) = ev_ri x (ev_mk h I' L) ∧ exc [139, 155] I I' ∧ (∀ j, j ≠ 26 → I' 139 j = I 139 j) ∧ uM I' (min (b + 1) 15) (psh t U) := by
  obtain ⟨h1, hb, h2⟩ := hU
  have e1 : nI b + 1 = nI (b + 1) := q_add b 1
  by_cases e : 15 < b + 1
  · have eb : b = 15 := by omega
    subst eb
    rw [e_Mo_adds_0, h1, e1, if_pos (by decide)]
    refine lpX (F := fun i J => ev_at d M_Mo_adds 21 [.ref 139, .int x, .int (nI i)] [] (ev_mk h J L)) (fun i J => exc [155] (ev_up I 139 26 (nI (15 + 1))) J ∧ ∀ j, J 155 j = if j < i then I 155 (j + 27) else I 155 j) 405 ?_ ?_ 0 (by omega) _ ⟨exc.rf, fun j => by rw [if_neg (by omega), u_c (by omega)]⟩
    · intro i J hi ⟨p1, p2⟩
      refine Or.inl ⟨ev_up J 155 i (J 155 (i + 27)), ?_, p1.up (by simp), fun j => ?_⟩
      · rw [e_Mo_adds_21]; simp (disch := first | omega | assumption) only [k_I, k_L, k_V, k_1, k_2, k_3, q_cl, z_in, z_lt_t, z_lt_f, z_eq_t, z_eq_f, q_add, q_sub, q_mul, z_tt, z_bit, z_shl, u_at, u_c, u_j, fa_or, z_fl, z_flf, eq_self, ↓reduceIte, z_0, z_1, z_2, z_3, z_4, z_5, z_6, z_7, z_8, z_9, z_10, z_12, z_15, z_16, z_24, z_27, z_40, z_60, z_79, z_80, z_99, z_255, z_256, z_405, z_432, z_9999, z_1000000]
      · by_cases e : j = i
        · subst e; rw [u_at, if_pos (by omega), p2, if_neg (by omega)]
        · rw [u_j e, p2 j]
          by_cases e2 : j < i
          · rw [if_pos e2, if_pos (by omega)]
          · rw [if_neg e2, if_neg (by omega)]
    · intro J ⟨p1, p2⟩
      have j26 : J 139 26 = nI 16 := by rw [p1 139 (by simp), u_at]
      refine ⟨ev_up J 139 26 (nI 15), ?_, ((((exc.rf.up (by simp) : exc [139, 155] I (ev_up I 139 26 (nI (15 + 1))))).tr (p1.mono (by simp))).up (by simp)), fun j hj => ?_, u_at _ _ _ _, by omega, fun i hi j hj => ?_⟩
      · rw [e_Mo_adds_21]; simp (disch := first | omega | assumption) only [j26, k_I, k_L, k_V, k_1, k_2, k_3, q_cl, z_in, z_lt_t, z_lt_f, z_eq_t, z_eq_f, q_add, q_sub, q_mul, z_tt, z_bit, z_shl, u_at, u_c, u_j, fa_or, z_fl, z_flf, eq_self, ↓reduceIte, z_0, z_1, z_2, z_3, z_4, z_5, z_6, z_7, z_8, z_9, z_10, z_12, z_15, z_16, z_24, z_27, z_40, z_60, z_79, z_80, z_99, z_255, z_256, z_405, z_432, z_9999, z_1000000]
      · rw [u_j hj, p1 139 (by simp), u_j hj]
      · rw [u_c (by omega), p2, if_pos (by omega)]
        by_cases ei : i = 0
        · subst ei
          have := ht j hj
          rw [show 27 * (min (15 + 1) 15 - 1 - 0) + j + 27 = 27 * 15 + j by omega, this]
          rfl
        · have := h2 (i - 1) (by omega) j hj
          rw [show 27 * (min (15 + 1) 15 - 1 - i) + j + 27 = 27 * (15 - 1 - (i - 1)) + j by omega, this]
          exact congrFun (show U (i - 1) = psh t U i from (if_neg ei).symm) j
  · refine ⟨ev_up I 139 26 (nI (b + 1)), ?_, exc.rf.up (by simp), fun j hj => u_j hj, ?_, by omega, fun i hi j hj => ?_⟩
    · rw [e_Mo_adds_0, h1, e1, if_neg (show ¬ (15 : Int32) < nI (b + 1) from fun z => e ((q_lt (a := 15) (by omega) (by omega)).mp z))]
    · rw [u_at, Nat.min_eq_left (by omega)]
    · rw [u_c (by omega), Nat.min_eq_left (by omega)]
      by_cases ei : i = 0
      · subst ei
        have := ht j hj
        rw [show 27 * (b + 1 - 1 - 0) + j = 27 * b + j by omega, this]
        rfl
      · have := h2 (i - 1) (by omega) j hj
        rw [show 27 * (b + 1 - 1 - i) + j = 27 * (b - 1 - (i - 1)) + j by omega, this]
        exact congrFun (show U (i - 1) = psh t U i from (if_neg ei).symm) j
theorem c_Mo_undo (d : Nat) {b : Nat} {U : Nat → Nat → Int32} (hU : uM I b U) : (b = 0 ∧ ev_do (d + 1) M_Mo_undo [.ref 139] (ev_mk h I L) = ev_ri (-1) (ev_mk h (ev_up I 139 0 0) L)) ∨ (0 < b ∧ ∃ I', ev_do (d + 1) M_Mo_undo [.ref 139] (ev_mk h I L) = ev_ri (nI (b - 1)) (ev_mk h I' L) ∧ exc [139, 143] I I' ∧ (∀ j, j ≠ 0 → j ≠ 26 → I' 139 j = I 139 j) ∧ mSt 143 0 I' (U 0) ∧ uM I' (b - 1) (fun i => U (i + 1))) := by
  obtain ⟨h1, hb, h2⟩ := hU
  by_cases e : b = 0
  · refine Or.inl ⟨e, ?_⟩
    subst e
    rw [e_Mo_undo_0, h1, if_pos (show nI 0 = 0 from rfl)]
  · refine Or.inr ⟨by omega, ?_⟩
    rw [e_Mo_undo_0, h1, if_neg (show ¬ nI b = (0 : Int32) from fun z => e ((q_eq (b := 0) (by omega) (by omega)).mp z)), show nI b - 1 = nI (b - 1) from q_sub (b := 1) (by omega)]
    obtain ⟨J0, hJ0⟩ : ∃ J, J = ev_up (ev_up I 139 0 0) 139 26 (nI (b - 1)) := ⟨_, rfl⟩
    have x0 : exc [139] I J0 := by rw [hJ0]; exact (exc.rf.up (by simp)).up (by simp)
    have j0 : J0 139 26 = nI (b - 1) := by rw [hJ0, u_at]
    rw [← hJ0]
    refine lpX (F := fun i J => ev_at d M_Mo_undo 26 [.ref 139, .int (nI i)] [] (ev_mk h J L)) (fun i J => exc [143] J0 J ∧ ∀ j, j < i → J 143 j = U 0 j) 27 ?_ ?_ 0 (by omega) _ ⟨exc.rf, fun j hj => by omega⟩
    · intro i J hi ⟨p1, p2⟩
      have j26 : J 139 26 = nI (b - 1) := by rw [p1 139 (by simp)]; exact j0
      have j155 : J 155 (27 * (b - 1) + i) = U 0 i := by
        rw [p1 155 (by simp), x0 155 (by simp)]
        exact h2 0 (by omega) i hi
      refine Or.inl ⟨ev_up J 143 i (U 0 i), ?_, p1.up (by simp), fun j hj => ?_⟩
      · rw [e_Mo_undo_26]; simp (disch := first | omega | assumption) only [j26, j155, k_I, k_L, k_V, k_1, k_2, k_3, q_cl, z_in, z_lt_t, z_lt_f, z_eq_t, z_eq_f, q_add, q_sub, q_mul, z_tt, z_bit, z_shl, u_at, u_c, u_j, fa_or, z_fl, z_flf, eq_self, ↓reduceIte, z_0, z_1, z_2, z_3, z_4, z_5, z_6, z_7, z_8, z_9, z_10, z_12, z_15, z_16, z_24, z_27, z_40, z_60, z_79, z_80, z_99, z_255, z_256, z_405, z_432, z_9999, z_1000000]
      · by_cases e : j = i
        · rw [e, u_at]
        · rw [u_j e]; exact p2 j (by omega)
    · intro J ⟨p1, p2⟩
      have j26 : J 139 26 = nI (b - 1) := by rw [p1 139 (by simp)]; exact j0
      refine ⟨J, ?_, (x0.mono (by simp)).tr (p1.mono (by simp)), fun j hj1 hj2 => ?_, fun j hj => by rw [Nat.zero_add]; exact p2 j hj, j26, by omega, fun i hi => ?_⟩
      · rw [e_Mo_undo_26]; simp (disch := first | omega | assumption) only [j26, k_I, k_L, k_V, k_1, k_2, k_3, q_cl, z_in, z_lt_t, z_lt_f, z_eq_t, z_eq_f, q_add, q_sub, q_mul, z_tt, z_bit, z_shl, u_at, u_c, u_j, fa_or, z_fl, z_flf, eq_self, ↓reduceIte, z_0, z_1, z_2, z_3, z_4, z_5, z_6, z_7, z_8, z_9, z_10, z_12, z_15, z_16, z_24, z_27, z_40, z_60, z_79, z_80, z_99, z_255, z_256, z_405, z_432, z_9999, z_1000000]
      · rw [p1 139 (by simp), hJ0, u_j hj2, u_j hj1]
      · have := ((h2 (i + 1) (by omega)).ex x0 (by simp)).ex p1 (by simp)
        rw [show 27 * (b - 1 - (i + 1)) = 27 * (b - 1 - 1 - i) by omega] at this
        exact this
theorem c_Mo_keep (d : Nat) {ch : Nat} {kp : Nat → Bool} {K : Nat → Nat → Int32} {s : Nat → Int32} {x : Int32} (hK : kM I ch kp K) (hch : ch ≤ 8) (hs : mSt 143 0 I s) : (blw x 3 = false ∧ ev_do (d + 2) M_Mo_keep [.ref 139, .int x] (ev_mk h I L) = ev_ri 0 (ev_mk h (ev_up I 139 0 0) L)) ∨ ∃ k I', k < 3 ∧ x = nI k ∧ ev_do (d + 2) M_Mo_keep [.ref 139, .int x] (ev_mk h I L) = ev_ri 1 (ev_mk h I' L) ∧ exc [139, 171, 172, 173] I I' ∧ (∀ j, j ≠ 0 → I' 139 j = I 139 j) ∧ kM I' ch (fun i => if i = k then true else kp i) (fun i => if i = k then s else K i) := by
  rw [e_Mo_keep_0, c_in2, k_I, k_1, k_2, k_3]
  cases hx : blw x 3 with
  | false => exact Or.inl ⟨rfl, by rw [if_pos (show fl false = 0 from rfl)]⟩
  | true =>
    obtain ⟨k, hk, rfl⟩ := (blw_iff (by omega)).mp hx
    rw [if_neg (show ¬ fl true = 0 by decide), q_in (by omega), if_pos (by simpa using hk), if_pos (by simpa using hk), q_cl (by omega), u_j (show 4 ≠ 0 by decide), hK.1]
    obtain ⟨J0, hJ0⟩ : ∃ J, J = ev_up (ev_up (ev_up I 139 0 0) 171 k 1) 172 k (nI ch) := ⟨_, rfl⟩
    have x0 : exc [139, 171, 172] I J0 := by rw [hJ0]; exact ((exc.rf.up (by simp)).up (by simp)).up (by simp)
    rw [← hJ0]
    have goal : ∃ I', ev_at (d + 1) M_Mo_keep 38 [.ref 139, .int (nI k), .int (nI 0)] [] (ev_mk h J0 L) = ev_ri 1 (ev_mk h I' L) ∧ exc [173] J0 I' ∧ ∀ j, I' 173 j = if 27 * k ≤ j ∧ j < 27 * k + 27 then s (j - 27 * k) else I 173 j := by
      refine lpX (F := fun i J => ev_at (d + 1) M_Mo_keep 38 [.ref 139, .int (nI k), .int (nI i)] [] (ev_mk h J L)) (fun i J => exc [173] J0 J ∧ ∀ j, J 173 j = if 27 * k ≤ j ∧ j < 27 * k + i then s (j - 27 * k) else I 173 j) 27 ?_ ?_ 0 (by omega) _ ⟨exc.rf, fun j => by rw [if_neg (by omega), x0 173 (by simp)]⟩
      · intro i J hi ⟨p1, p2⟩
        have j143 : J 143 i = s i := by rw [p1 143 (by simp), x0 143 (by simp)]; exact hs.at hi
        refine Or.inl ⟨ev_up J 173 (27 * k + i) (s i), ?_, p1.up (by simp), fun j => ?_⟩
        · rw [e_Mo_keep_38]; simp (disch := first | omega | assumption) only [j143, k_I, k_L, k_V, k_1, k_2, k_3, q_cl, z_in, z_lt_t, z_lt_f, z_eq_t, z_eq_f, q_add, q_sub, q_mul, z_tt, z_bit, z_shl, u_at, u_c, u_j, fa_or, z_fl, z_flf, eq_self, ↓reduceIte, z_0, z_1, z_2, z_3, z_4, z_5, z_6, z_7, z_8, z_9, z_10, z_12, z_15, z_16, z_24, z_27, z_40, z_60, z_79, z_80, z_99, z_255, z_256, z_405, z_432, z_9999, z_1000000]
        · by_cases e : j = 27 * k + i
          · subst e; rw [u_at, if_pos (by omega), show 27 * k + i - 27 * k = i by omega]
          · rw [u_j e, p2 j]
            by_cases e2 : 27 * k ≤ j ∧ j < 27 * k + i
            · rw [if_pos e2, if_pos (by omega)]
            · rw [if_neg e2, if_neg (by omega)]
      · intro J ⟨p1, p2⟩
        exact ⟨J, by rw [e_Mo_keep_38]; simp (disch := first | omega | assumption) only [k_I, k_L, k_V, k_1, k_2, k_3, q_cl, z_in, z_lt_t, z_lt_f, z_eq_t, z_eq_f, q_add, q_sub, q_mul, z_tt, z_bit, z_shl, u_at, u_c, u_j, fa_or, z_fl, z_flf, eq_self, ↓reduceIte, z_0, z_1, z_2, z_3, z_4, z_5, z_6, z_7, z_8, z_9, z_10, z_12, z_15, z_16, z_24, z_27, z_40, z_60, z_79, z_80, z_99, z_255, z_256, z_405, z_432, z_9999, z_1000000], p1, p2⟩
    obtain ⟨I', g1, g2, g3⟩ := goal
    refine Or.inr ⟨k, I', hk, rfl, g1, (x0.mono (by simp)).tr (g2.mono (by simp)), fun j hj => ?_, ?_, fun i hi => ?_⟩
    · rw [g2 139 (by simp), hJ0, u_c (by omega), u_c (by omega), u_j hj]
    · rw [g2 139 (by simp), hJ0, u_c (by omega), u_c (by omega), u_j (by omega)]; exact hK.1
    · show ∃ (q : Bool) (kc : Nat), I' 171 i = fl q ∧ I' 172 i = nI kc ∧ kc ≤ ch ∧ (if i = k then true else kp i) = (q && decide (kc = ch)) ∧ ((if i = k then true else kp i) = true → mSt 173 (27 * i) I' (if i = k then s else K i))
      by_cases e : i = k
      · subst e
        refine ⟨true, ch, ?_, ?_, Nat.le_refl _, by simp, fun _ j hj => ?_⟩
        · rw [g2 171 (by simp), hJ0, u_c (by omega), u_at]; rfl
        · rw [g2 172 (by simp), hJ0, u_at]
        · rw [g3, if_pos (by omega), show 27 * i + j - 27 * i = j by omega, if_pos rfl]
      · obtain ⟨q, kc, k1, k2, k3, k4, k5⟩ := hK.2 i hi
        refine ⟨q, kc, ?_, ?_, k3, by rw [if_neg e]; exact k4, fun z j hj => ?_⟩
        · rw [g2 171 (by simp), hJ0, u_c (by omega), u_j e, u_c (by omega)]; exact k1
        · rw [g2 172 (by simp), hJ0, u_j e, u_c (by omega), u_c (by omega)]; exact k2
        · rw [if_neg e] at z ⊢
          rw [g3, if_neg (by omega)]
          exact k5 z j hj
theorem c_Mo_again (d : Nat) {ch : Nat} {kp : Nat → Bool} {K : Nat → Nat → Int32} {x : Int32} (hK : kM I ch kp K) (hch : ch ≤ 8) : ((blw x 3 && kp x.toNatClampNeg) = false ∧ ev_do (d + 2) M_Mo_again [.ref 139, .int x] (ev_mk h I L) = ev_ri 0 (ev_mk h (ev_up I 139 0 0) L)) ∨ ∃ k I', k < 3 ∧ x = nI k ∧ kp k = true ∧ ev_do (d + 2) M_Mo_again [.ref 139, .int x] (ev_mk h I L) = ev_ri 1 (ev_mk h I' L) ∧ exc [139, 143] I I' ∧ (∀ j, j ≠ 0 → j ≠ 26 → I' 139 j = I 139 j) ∧ I' 139 26 = 0 ∧ mSt 143 0 I' (K k) := by
  rw [e_Mo_again_0, c_in2, k_I, k_1, k_2, k_3]
  cases hx : blw x 3 with
  | false => exact Or.inl ⟨rfl, by rw [if_pos (show fl false = 0 from rfl)]⟩
  | true =>
    obtain ⟨k, hk, rfl⟩ := (blw_iff (by omega)).mp hx
    obtain ⟨q, kc, k1, k2, k3, k4, k5⟩ := hK.2 k hk
    rw [if_neg (show ¬ fl true = 0 by decide), q_in (by omega), if_pos (c := decide (k < 3) = true) (by simpa using hk), if_pos (c := decide (k < 3) = true) (by simpa using hk), q_cl (by omega), u_c (show 171 ≠ 139 by decide), u_c (show 172 ≠ 139 by decide), u_j (show 4 ≠ 0 by decide), hK.1, k1, k2]
    cases q with
    | false => exact Or.inl ⟨by rw [k4]; rfl, by rw [if_pos (show fl false = 0 from rfl)]⟩
    | true =>
      rw [if_neg (show ¬ fl true = 0 by decide)]
      by_cases ec : kc = ch
      · have hp : kp k = true := by rw [k4, decide_eq_true ec]; rfl
        rw [if_pos (by rw [ec])]
        refine Or.inr ⟨k, ?_⟩
        have goal : ∃ I', ev_at (d + 1) M_Mo_again 43 [.ref 139, .int (nI k), .int (nI 0)] [] (ev_mk h (ev_up I 139 0 0) L) = ev_ri 1 (ev_mk h I' L) ∧ exc [139, 143] I I' ∧ (∀ j, j ≠ 0 → j ≠ 26 → I' 139 j = I 139 j) ∧ I' 139 26 = 0 ∧ mSt 143 0 I' (K k) := by
          refine lpX (F := fun i J => ev_at (d + 1) M_Mo_again 43 [.ref 139, .int (nI k), .int (nI i)] [] (ev_mk h J L)) (fun i J => exc [143] (ev_up I 139 0 0) J ∧ ∀ j, j < i → J 143 j = K k j) 27 ?_ ?_ 0 (by omega) _ ⟨exc.rf, fun j hj => by omega⟩
          · intro i J hi ⟨p1, p2⟩
            have j173 : J 173 (27 * k + i) = K k i := by
              rw [p1 173 (by simp), u_c (by omega)]
              exact k5 hp i hi
            refine Or.inl ⟨ev_up J 143 i (K k i), ?_, p1.up (by simp), fun j hj => ?_⟩
            · rw [e_Mo_again_43]; simp (disch := first | omega | assumption) only [j173, k_I, k_L, k_V, k_1, k_2, k_3, q_cl, z_in, z_lt_t, z_lt_f, z_eq_t, z_eq_f, q_add, q_sub, q_mul, z_tt, z_bit, z_shl, u_at, u_c, u_j, fa_or, z_fl, z_flf, eq_self, ↓reduceIte, z_0, z_1, z_2, z_3, z_4, z_5, z_6, z_7, z_8, z_9, z_10, z_12, z_15, z_16, z_24, z_27, z_40, z_60, z_79, z_80, z_99, z_255, z_256, z_405, z_432, z_9999, z_1000000]
            · by_cases e : j = i
              · rw [e, u_at]
              · rw [u_j e]; exact p2 j (by omega)
          · intro J ⟨p1, p2⟩
            refine ⟨ev_up J 139 26 0, ?_, ((((exc.rf.up (by simp) : exc [139, 143] I (ev_up I 139 0 0))).tr (p1.mono (by simp))).up (by simp)), fun j hj1 hj2 => ?_, u_at _ _ _ _, fun j hj => ?_⟩
            · rw [e_Mo_again_43]; simp (disch := first | omega | assumption) only [k_I, k_L, k_V, k_1, k_2, k_3, q_cl, z_in, z_lt_t, z_lt_f, z_eq_t, z_eq_f, q_add, q_sub, q_mul, z_tt, z_bit, z_shl, u_at, u_c, u_j, fa_or, z_fl, z_flf, eq_self, ↓reduceIte, z_0, z_1, z_2, z_3, z_4, z_5, z_6, z_7, z_8, z_9, z_10, z_12, z_15, z_16, z_24, z_27, z_40, z_60, z_79, z_80, z_99, z_255, z_256, z_405, z_432, z_9999, z_1000000]
            · rw [u_j hj2, p1 139 (by simp), u_j hj1]
            · rw [Nat.zero_add, u_c (by omega)]; exact p2 j hj
        obtain ⟨I', g⟩ := goal
        exact ⟨I', hk, rfl, hp, g⟩
      · refine Or.inl ⟨by rw [k4, decide_eq_false ec]; rfl, ?_⟩
        rw [if_neg (fun z => ec ((q_eq (by omega) (by omega)).mp z))]
end PM

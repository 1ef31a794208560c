/-! Calls: apart, shared. -/
section OX
variable {h : Bool × Nat × Nat} {d : Nat} {I J : Nat → Nat → Int32} {L : Nat → Nat → Int64} {A : aP}
theorem xAb (d : Nat) (hw : wfA A) (hi : invM I L A) (f : frM I J) {a b : Nat} (ha : a < (aBk A).1) (hb : b < (aBk A).1) (st : Nat) {L' : Nat → Nat → Int64} : ∃ K, ev_do (d + 3) M_Mo_apartBy [.ref 139, .int (nI a), .int (nI b), .int (nI st)] (ev_mk h J L') = ev_ri (nI (edA A a b st)) (ev_mk h K L') ∧ frM I K ∧ exc [153, 154, 159] J K := by
  have hW := hw.2.2.1.1
  obtain ⟨K1, K0, e1, e0, f1, f0, x0, y0⟩ := c_layM (h := h) (L' := L') d hw hi f ha hb st
  have hn := lk_len hw ha st
  have hm := lk_len hw hb st
  have gx : ∀ j, j < (lk A a st).length → (fun j => (lk A a st).getD j 0) j < 8 := fun j hj => getD_lt hw ha st hj
  have gy : ∀ j, j < (lk A b st).length → (fun j => (lk A b st).getD j 0) j < 8 := fun j hj => getD_lt hw hb st hj
  have hu0 := hi.u hw f a ha
  have hu1 := hi.u hw f1 b hb
  unfold edA
  generalize (fun j => (lk A a st).getD j 0) = x at *
  generalize (fun j => (lk A b st).getD j 0) = y at *
  generalize (lk A a st).length = n at *
  generalize (lk A b st).length = m at *
  rw [e_Mo_apartBy_0, q_in (by omega), if_pos (by simp <;> omega), q_cl (by omega), hu0, e1, k_I, k_1, k_2, k_3, q_in (by omega), if_pos (by simp <;> omega), q_cl (by omega), hu1, e0, k_I, k_1, k_2, k_3]
  refine lpG (F := fun i K => ev_at (d + 2) M_Mo_apartBy 39 [.ref 139, .float 0, .float 0, .float 0, .int (nI n), .int (nI m), .int (nI i), .float 0, .float 0] [] (ev_mk h K L')) (G := fun i j K => ev_at (d + 2) M_Mo_apartBy 49 [.ref 139, .float 0, .float 0, .float 0, .int (nI n), .int (nI m), .int (nI i), .int (nI j), .float 0] [] (ev_mk h K L')) (fun i j K => (frM I K ∧ exc [153, 154, 159] J K ∧ lydM K x y n m) ∧ grd9 K (ed x y) m i j) (fun o => ∃ K, o = ev_ri (nI (ed x y n m)) (ev_mk h K L') ∧ frM I K ∧ exc [153, 154, 159] J K) n m ?_ ?_ ?_ ?_ K0 ⟨⟨f0, x0.mono (by simp), y0⟩, fun a b _ z => by omega⟩
  · intro i K hi' ⟨⟨p1, p2, p3⟩, p4⟩
    rw [e_Mo_apartBy_39, if_neg (fun z => absurd ((q_lt (by omega) (by omega)).mp z) (by omega))]
    rfl
  · intro i j K hi' hj ⟨⟨p1, p2, p3⟩, p4⟩
    have hle := ed_le x y i j
    refine ⟨ev_up K 159 (9 * i + j) (nI (ed x y i j)), ?_, ⟨p1.up (by unfold scM; omega) (by omega), p2.up (by simp), by unfold lydM; rw [u_cf (by omega), u_cf (by omega)]; exact p3⟩, grd_up hm hj p4⟩
    have e183 : ev_at (d + 2) M_Mo_apartBy 183 [.ref 139, .float 0, .float 0, .float 0, .int (nI n), .int (nI m), .int (nI i), .int (nI j), .float 0] [.int (nI (ed x y i j))] (ev_mk h K L') = ev_at (d + 2) M_Mo_apartBy 49 [.ref 139, .float 0, .float 0, .float 0, .int (nI n), .int (nI m), .int (nI i), .int (nI (j + 1)), .float 0] [] (ev_mk h (ev_up K 159 (9 * i + j) (nI (ed x y i j))) L') := by
      rw [e_Mo_apartBy_183, c_sq (d + 1), k_I, k_1, k_2, k_3, q_in (by omega), if_pos (by simp <;> omega), q_cl (by omega), show nI j + 1 = nI (j + 1) from q_add j 1]
    rw [e_Mo_apartBy_49, if_neg (fun z => absurd ((q_lt (by omega) (by omega)).mp z) (by omega))]
    by_cases ei : i = 0
    · subst ei
      have pos : ¬ (0 : Int32) < nI 0 := by decide
      rw [if_pos (show nI 0 = 0 from rfl), e_Mo_apartBy_82]
      by_cases ej : j = 0
      · subst ej
        rw [if_pos (show nI 0 = 0 from rfl), e_Mo_apartBy_115, if_neg pos]
        exact e183
      · obtain ⟨j', rfl⟩ : ∃ j', j = j' + 1 := ⟨j - 1, by omega⟩
        have t3 := p4 0 j' (by omega) (by omega)
        rw [ed_0] at t3 e183
        rw [if_neg (show ¬ nI (j' + 1) = 0 from fun z => ej ((q_eq (b := 0) (by omega) (by omega)).mp z)), show nI (j' + 1) - 1 = nI j' from q_sub (a := j' + 1) (b := 1) (by omega), c_sq (d + 1), k_I, k_1, k_2, k_3, q_in (by omega), if_pos (by simp <;> omega), q_cl (by omega), t3, show nI j' + 1 = nI (j' + 1) from q_add j' 1, z_min (by omega) (by omega), Nat.min_self, e_Mo_apartBy_115, if_neg pos]
        exact e183
    · obtain ⟨i', rfl⟩ : ∃ i', i = i' + 1 := ⟨i - 1, by omega⟩
      have t2 := p4 i' j (by omega) (by omega)
      have l2 := ed_le x y i' j
      rw [if_neg (show ¬ nI (i' + 1) = 0 from fun z => ei ((q_eq (b := 0) (by omega) (by omega)).mp z)), show nI (i' + 1) - 1 = nI i' from q_sub (a := i' + 1) (b := 1) (by omega), c_sq (d + 1), k_I, k_1, k_2, k_3, q_in (by omega), if_pos (by simp <;> omega), q_cl (by omega), t2, show nI (ed x y i' j) + 1 = nI (ed x y i' j + 1) from q_add _ 1, e_Mo_apartBy_82]
      by_cases ej : j = 0
      · subst ej
        rw [ed_i0] at e183
        rw [if_pos (show nI 0 = 0 from rfl), e_Mo_apartBy_115, if_pos (show (0 : Int32) < nI (i' + 1) from (q_lt (a := 0) (by omega) (by omega)).mpr (by omega)), if_neg (by decide), e183, ed_i0]
      · obtain ⟨j', rfl⟩ : ∃ j', j = j' + 1 := ⟨j - 1, by omega⟩
        have t1 := p4 i' j' (by omega) (by omega)
        have t3 := p4 (i' + 1) j' (by omega) (by omega)
        have l1 := ed_le x y i' j'
        have l3 := ed_le x y (i' + 1) j'
        have hx := gx i' (by omega)
        have hy := gy j' (by omega)
        rw [ed_ss] at e183
        have e171 : ∀ z : Bool, ev_at (d + 2) M_Mo_apartBy 171 [.ref 139, .float 0, .float 0, .float 0, .int (nI n), .int (nI m), .int (nI (i' + 1)), .int (nI (j' + 1)), .float 0] [.int (fl z), .int (nI (ed x y i' j')), .int (nI (min (ed x y (i' + 1) j' + 1) (ed x y i' (j' + 1) + 1)))] (ev_mk h K L') = ev_at (d + 2) M_Mo_apartBy 183 [.ref 139, .float 0, .float 0, .float 0, .int (nI n), .int (nI m), .int (nI (i' + 1)), .int (nI (j' + 1)), .float 0] [.int (nI (min (ed x y i' j' + if z then 1 else 0) (min (ed x y i' (j' + 1)) (ed x y (i' + 1) j') + 1)))] (ev_mk h K L') := by
          intro z
          have hz : (if z then 1 else 0) ≤ 1 := by cases z <;> simp
          rw [e_Mo_apartBy_171, c_Mo_flag (d + 1), k_I, k_1, k_2, k_3, fl_or, q_add, z_min (by omega) (by omega), show min (ed x y (i' + 1) j' + 1) (ed x y i' (j' + 1) + 1) = min (ed x y i' (j' + 1)) (ed x y (i' + 1) j') + 1 by omega]
        rw [if_neg (show ¬ nI (j' + 1) = 0 from fun z => ej ((q_eq (b := 0) (by omega) (by omega)).mp z)), show nI (j' + 1) - 1 = nI j' from q_sub (a := j' + 1) (b := 1) (by omega), c_sq (d + 1), k_I, k_1, k_2, k_3, q_in (by omega), if_pos (by simp <;> omega), q_cl (by omega), t3, show nI (ed x y (i' + 1) j') + 1 = nI (ed x y (i' + 1) j' + 1) from q_add _ 1, z_min (by omega) (by omega), e_Mo_apartBy_115, if_pos (show (0 : Int32) < nI (i' + 1) from (q_lt (a := 0) (by omega) (by omega)).mpr (by omega)), if_pos (show (0 : Int32) < nI (j' + 1) from (q_lt (a := 0) (by omega) (by omega)).mpr (by omega)), show nI (i' + 1) - 1 = nI i' from q_sub (a := i' + 1) (b := 1) (by omega), show nI (j' + 1) - 1 = nI j' from q_sub (a := j' + 1) (b := 1) (by omega), c_sq (d + 1), k_I, k_1, k_2, k_3, q_in (by omega), if_pos (by simp <;> omega), q_in (n := 8) (by omega), if_pos (by simp <;> omega), q_in (n := 8) (by omega), if_pos (by simp <;> omega), q_cl (by omega), q_cl (by omega), q_cl (by omega), p3.1 i' (by omega), p3.2 j' (by omega), t1, ed_ss]
        by_cases e : x i' = y j'
        · rw [if_pos e] at e183 ⊢
          rw [if_pos (by rw [e])]
          exact (e171 false).trans e183
        · rw [if_neg e] at e183 ⊢
          rw [if_neg (fun z => e ((lt_eq hx hy).mp z))]
          exact (e171 true).trans e183
  · intro i K hi' ⟨p1, p4⟩
    refine ⟨?_, p1, grd_row p4⟩
    rw [e_Mo_apartBy_49, if_pos ((q_lt (by omega) (by omega)).mpr (by omega)), show nI i + 1 = nI (i + 1) from q_add i 1]
  · intro K ⟨⟨p1, p2, p3⟩, p4⟩
    refine ⟨K, ?_, p1, p2⟩
    rw [e_Mo_apartBy_39, if_pos ((q_lt (by omega) (by omega)).mpr (by omega)), c_sq (d + 1), k_I, k_1, k_2, k_3, q_in (by omega), if_pos (by simp <;> omega), q_cl (by omega), p4 n m (by omega) (by omega)]
theorem xSh (d : Nat) (hw : wfA A) (hi : invM I L A) (f : frM I J) {a b : Nat} (ha : a < (aBk A).1) (hb : b < (aBk A).1) (st : Nat) {L' : Nat → Nat → Int64} : ∃ K, ev_do (d + 3) M_Mo_sharedBy [.ref 139, .int (nI a), .int (nI b), .int (nI st)] (ev_mk h J L') = ev_ri (nI (cmA A a b st)) (ev_mk h K L') ∧ frM I K ∧ exc [153, 154, 159] J K := by
  have hW := hw.2.2.1.1
  obtain ⟨K1, K0, e1, e0, f1, f0, x0, y0⟩ := c_layM (h := h) (L' := L') d hw hi f ha hb st
  have hn := lk_len hw ha st
  have hm := lk_len hw hb st
  have gx : ∀ j, j < (lk A a st).length → (fun j => (lk A a st).getD j 0) j < 8 := fun j hj => getD_lt hw ha st hj
  have gy : ∀ j, j < (lk A b st).length → (fun j => (lk A b st).getD j 0) j < 8 := fun j hj => getD_lt hw hb st hj
  have hu0 := hi.u hw f a ha
  have hu1 := hi.u hw f1 b hb
  unfold cmA
  generalize (fun j => (lk A a st).getD j 0) = x at *
  generalize (fun j => (lk A b st).getD j 0) = y at *
  generalize (lk A a st).length = n at *
  generalize (lk A b st).length = m at *
  rw [e_Mo_sharedBy_0, q_in (by omega), if_pos (by simp <;> omega), q_cl (by omega), hu0, e1, k_I, k_1, k_2, k_3, q_in (by omega), if_pos (by simp <;> omega), q_cl (by omega), hu1, e0, k_I, k_1, k_2, k_3]
  refine lpG (F := fun i K => ev_at (d + 2) M_Mo_sharedBy 39 [.ref 139, .float 0, .float 0, .float 0, .int (nI n), .int (nI m), .int (nI i), .float 0, .float 0] [] (ev_mk h K L')) (G := fun i j K => ev_at (d + 2) M_Mo_sharedBy 49 [.ref 139, .float 0, .float 0, .float 0, .int (nI n), .int (nI m), .int (nI i), .int (nI j), .float 0] [] (ev_mk h K L')) (fun i j K => (frM I K ∧ exc [153, 154, 159] J K ∧ lydM K x y n m) ∧ grd9 K (cm x y) m i j) (fun o => ∃ K, o = ev_ri (nI (cm x y n m)) (ev_mk h K L') ∧ frM I K ∧ exc [153, 154, 159] J K) n m ?_ ?_ ?_ ?_ K0 ⟨⟨f0, x0.mono (by simp), y0⟩, fun a b _ z => by omega⟩
  · intro i K hi' ⟨⟨p1, p2, p3⟩, p4⟩
    rw [e_Mo_sharedBy_39, if_neg (fun z => absurd ((q_lt (by omega) (by omega)).mp z) (by omega))]
    rfl
  · intro i j K hi' hj ⟨⟨p1, p2, p3⟩, p4⟩
    have hle := cm_le x y i j
    refine ⟨ev_up K 159 (9 * i + j) (nI (cm x y i j)), ?_, ⟨p1.up (by unfold scM; omega) (by omega), p2.up (by simp), by unfold lydM; rw [u_cf (by omega), u_cf (by omega)]; exact p3⟩, grd_up hm hj p4⟩
    have e162 : ev_at (d + 2) M_Mo_sharedBy 162 [.ref 139, .float 0, .float 0, .float 0, .int (nI n), .int (nI m), .int (nI i), .int (nI j), .float 0] [.int (nI (cm x y i j))] (ev_mk h K L') = ev_at (d + 2) M_Mo_sharedBy 49 [.ref 139, .float 0, .float 0, .float 0, .int (nI n), .int (nI m), .int (nI i), .int (nI (j + 1)), .float 0] [] (ev_mk h (ev_up K 159 (9 * i + j) (nI (cm x y i j))) L') := by
      rw [e_Mo_sharedBy_162, c_sq (d + 1), k_I, k_1, k_2, k_3, q_in (by omega), if_pos (by simp <;> omega), q_cl (by omega), show nI j + 1 = nI (j + 1) from q_add j 1]
    rw [e_Mo_sharedBy_49, if_neg (fun z => absurd ((q_lt (by omega) (by omega)).mp z) (by omega))]
    by_cases ei : i = 0
    · subst ei
      rw [if_pos (show nI 0 = 0 from rfl), e_Mo_sharedBy_101, if_neg (by decide)]
      exact e162
    · rw [if_neg (show ¬ nI i = 0 from fun z => ei ((q_eq (b := 0) (by omega) (by omega)).mp z))]
      by_cases ej : j = 0
      · subst ej
        rw [cm_i0] at e162
        rw [if_pos (show nI 0 = 0 from rfl), e_Mo_sharedBy_101, if_pos (show (0 : Int32) < nI i from (q_lt (a := 0) (by omega) (by omega)).mpr (by omega)), if_neg (by decide), cm_i0]
        exact e162
      · obtain ⟨i', rfl⟩ : ∃ i', i = i' + 1 := ⟨i - 1, by omega⟩
        obtain ⟨j', rfl⟩ : ∃ j', j = j' + 1 := ⟨j - 1, by omega⟩
        have t1 := p4 i' j' (by omega) (by omega)
        have t2 := p4 i' (j' + 1) (by omega) (by omega)
        have t3 := p4 (i' + 1) j' (by omega) (by omega)
        have l1 := cm_le x y i' j'
        have l2 := cm_le x y i' (j' + 1)
        have l3 := cm_le x y (i' + 1) j'
        have a1 := cm_A x y i' j'
        have b1 := cm_B (fun j => cm_A x y i' j) j'
        have hx := gx i' (by omega)
        have hy := gy j' (by omega)
        rw [cm_ss] at e162
        rw [if_neg (show ¬ nI (j' + 1) = 0 from fun z => ej ((q_eq (b := 0) (by omega) (by omega)).mp z)), show nI (i' + 1) - 1 = nI i' from q_sub (a := i' + 1) (b := 1) (by omega), c_sq (d + 1), k_I, k_1, k_2, k_3, q_in (by omega), if_pos (by simp <;> omega), q_cl (by omega), t2, show nI (j' + 1) - 1 = nI j' from q_sub (a := j' + 1) (b := 1) (by omega), c_sq (d + 1), k_I, k_1, k_2, k_3, q_in (by omega), if_pos (by simp <;> omega), q_cl (by omega), t3, z_max (by omega) (by omega), e_Mo_sharedBy_101, if_pos (show (0 : Int32) < nI (i' + 1) from (q_lt (a := 0) (by omega) (by omega)).mpr (by omega)), if_pos (show (0 : Int32) < nI (j' + 1) from (q_lt (a := 0) (by omega) (by omega)).mpr (by omega)), show nI (i' + 1) - 1 = nI i' from q_sub (a := i' + 1) (b := 1) (by omega), show nI (j' + 1) - 1 = nI j' from q_sub (a := j' + 1) (b := 1) (by omega), q_in (n := 8) (by omega), if_pos (by simp <;> omega), q_in (n := 8) (by omega), if_pos (by simp <;> omega), q_cl (by omega), q_cl (by omega), p3.1 i' (by omega), p3.2 j' (by omega), cm_ss]
        by_cases e : x i' = y j'
        · rw [if_pos e] at e162 ⊢
          rw [if_pos (by rw [e]), c_sq (d + 1), k_I, k_1, k_2, k_3, q_in (by omega), if_pos (by simp <;> omega), q_cl (by omega), t1, show nI (cm x y i' j') + 1 = nI (cm x y i' j' + 1) from q_add _ 1, z_max (by omega) (by omega), show max (max (cm x y i' (j' + 1)) (cm x y (i' + 1) j')) (cm x y i' j' + 1) = cm x y i' j' + 1 by omega]
          exact e162
        · rw [if_neg e] at e162 ⊢
          rw [if_neg (fun z => e ((lt_eq hx hy).mp z))]
          exact e162
  · intro i K hi' ⟨p1, p4⟩
    refine ⟨?_, p1, grd_row p4⟩
    rw [e_Mo_sharedBy_49, if_pos ((q_lt (by omega) (by omega)).mpr (by omega)), show nI i + 1 = nI (i + 1) from q_add i 1]
  · intro K ⟨⟨p1, p2, p3⟩, p4⟩
    refine ⟨K, ?_, p1, p2⟩
    rw [e_Mo_sharedBy_39, if_pos ((q_lt (by omega) (by omega)).mpr (by omega)), c_sq (d + 1), k_I, k_1, k_2, k_3, q_in (by omega), if_pos (by simp <;> omega), q_cl (by omega), p4 n m (by omega) (by omega)]
theorem op_apart {x y : Int32} (hi : inv I L) : okI h d M_SL_apart M_Mo_apart [.int x, .int y] I L := by
  refine ok_q (fun A hw => ?_) hi
  have hW := hw.2.2.1.1
  cases hxy : blw x (aBk A).1 && blw y (aBk A).1 && decide (x ≠ y) with
  | false =>
    refine no_q (v := -1) hw (fun I L hi => ?_) (fun I L hi => ?_)
    · rw [e_SL_apart_0, c_Book_hasBoth (d + 97) hi.2.2.1.1.1, k_I, k_1, k_2, k_3, hxy, if_pos (show fl false = 0 from rfl)]
    · rw [e_Mo_apart_0, c_Mo_arePair (d + 96) hi.th.2.2.1.1 hW, k_I, k_1, k_2, k_3, hxy, if_pos (show fl false = 0 from rfl)]
  | true =>
    have hxy' := hxy
    rw [Bool.and_eq_true, Bool.and_eq_true] at hxy'
    obtain ⟨a, ha, rfl⟩ := (blw_iff (by omega)).mp hxy'.1.1
    obtain ⟨b, hb, rfl⟩ := (blw_iff (by omega)).mp hxy'.1.2
    refine ⟨nI (edA A a b (uO (aS A) 24)), snoc nil0 (nI (edA A a b 0)).toInt64, show 1 ≤ 9 by decide, fun I L hi => ?_, fun I L hi => ?_⟩
    · obtain ⟨K1, e1, f1, x1⟩ := xEd (h := h) (L' := L) (d + 94) hw hi (frC.rf.t1 0) ha hb 0
      obtain ⟨K2, L2, e2, x2, l2, r2⟩ := t_tell (h := h) (I := K1) (x := (nI (edA A a b 0)).toInt64) (d + 98) ((rwC.nil (I := I) (L := L)).of (by rw [x1 3 (by simp)]) rfl) (show 0 < 9 by decide)
      have f2 : frC I K2 := f1.x x2 (by simp [scC])
      obtain ⟨K3, e3, f3, x3⟩ := xEd (h := h) (L' := L2) (d + 94) hw hi f2 ha hb (uO (aS A) 24)
      refine ⟨(K3, L2), ?_, f3, r2.of (by show K3 3 1 = _; rw [x3 3 (by simp)]) rfl, l2 140 (by omega)⟩
      rw [e_SL_apart_0, c_Book_hasBoth (d + 97) hi.2.2.1.1.1, k_I, k_1, k_2, k_3, hxy, if_neg (show ¬ fl true = 0 by decide), show (.int 0 : Value) = .int (nI 0) from rfl, e1, k_I, k_1, k_2, k_3, e2, k_V, k_1, k_2, k_3, hi.st3 hw f2, e3, k_I, k_1, k_2, k_3]
    · obtain ⟨K1, e1, f1, x1⟩ := xAb (h := h) (L' := L) (d + 96) hw hi (frM.t0.t1 0) ha hb 0
      obtain ⟨K2, L2, e2, x2, n2, l2, r2⟩ := t_enters (h := h) (I := K1) (x := (nI (edA A a b 0)).toInt64) (d + 98) ((rwM.nil (I := ev_up I 139 0 0) (L := L)).of (by rw [x1 139 (by simp)]) rfl) (show 0 < 24 by decide)
      have f2 : frM I K2 := f1.e x2 n2
      obtain ⟨K3, e3, f3, x3⟩ := xAb (h := h) (L' := L2) (d + 96) hw hi f2 ha hb (uO (aS A) 24)
      refine ⟨(K3, L2), ?_, f3, r2.of (by show K3 139 1 = _; rw [x3 139 (by simp)]) rfl, l2 4 (by omega)⟩
      rw [e_Mo_apart_0, c_Mo_arePair (d + 96) hi.th.2.2.1.1 hW, k_I, k_1, k_2, k_3, hxy, if_neg (show ¬ fl true = 0 by decide), show (.int 0 : Value) = .int (nI 0) from rfl, e1, k_I, k_1, k_2, k_3, e2, k_V, k_1, k_2, k_3, hi.st3 hw f2, e3, k_I, k_1, k_2, k_3]
theorem op_shared {x y : Int32} (hi : inv I L) : okI h d M_SL_shared M_Mo_shared [.int x, .int y] I L := by
  refine ok_q (fun A hw => ?_) hi
  have hW := hw.2.2.1.1
  cases hxy : blw x (aBk A).1 && blw y (aBk A).1 && decide (x ≠ y) with
  | false =>
    refine no_q (v := -1) hw (fun I L hi => ?_) (fun I L hi => ?_)
    · rw [e_SL_shared_0, c_Book_hasBoth (d + 97) hi.2.2.1.1.1, k_I, k_1, k_2, k_3, hxy, if_pos (show fl false = 0 from rfl)]
    · rw [e_Mo_shared_0, c_Mo_arePair (d + 96) hi.th.2.2.1.1 hW, k_I, k_1, k_2, k_3, hxy, if_pos (show fl false = 0 from rfl)]
  | true =>
    have hxy' := hxy
    rw [Bool.and_eq_true, Bool.and_eq_true] at hxy'
    obtain ⟨a, ha, rfl⟩ := (blw_iff (by omega)).mp hxy'.1.1
    obtain ⟨b, hb, rfl⟩ := (blw_iff (by omega)).mp hxy'.1.2
    refine ⟨nI (cmA A a b (uO (aS A) 24)), snoc nil0 (nI (cmA A a b 0)).toInt64, show 1 ≤ 9 by decide, fun I L hi => ?_, fun I L hi => ?_⟩
    · obtain ⟨K1, e1, f1, x1⟩ := xCm (h := h) (L' := L) (d + 94) hw hi (frC.rf.t1 0) ha hb 0
      obtain ⟨K2, L2, e2, x2, l2, r2⟩ := t_tell (h := h) (I := K1) (x := (nI (cmA A a b 0)).toInt64) (d + 98) ((rwC.nil (I := I) (L := L)).of (by rw [x1 3 (by simp)]) rfl) (show 0 < 9 by decide)
      have f2 : frC I K2 := f1.x x2 (by simp [scC])
      obtain ⟨K3, e3, f3, x3⟩ := xCm (h := h) (L' := L2) (d + 94) hw hi f2 ha hb (uO (aS A) 24)
      refine ⟨(K3, L2), ?_, f3, r2.of (by show K3 3 1 = _; rw [x3 3 (by simp)]) rfl, l2 140 (by omega)⟩
      rw [e_SL_shared_0, c_Book_hasBoth (d + 97) hi.2.2.1.1.1, k_I, k_1, k_2, k_3, hxy, if_neg (show ¬ fl true = 0 by decide), show (.int 0 : Value) = .int (nI 0) from rfl, e1, k_I, k_1, k_2, k_3, e2, k_V, k_1, k_2, k_3, hi.st3 hw f2, e3, k_I, k_1, k_2, k_3]
    · obtain ⟨K1, e1, f1, x1⟩ := xSh (h := h) (L' := L) (d + 96) hw hi (frM.t0.t1 0) ha hb 0
      obtain ⟨K2, L2, e2, x2, n2, l2, r2⟩ := t_enters (h := h) (I := K1) (x := (nI (cmA A a b 0)).toInt64) (d + 98) ((rwM.nil (I := ev_up I 139 0 0) (L := L)).of (by rw [x1 139 (by simp)]) rfl) (show 0 < 24 by decide)
      have f2 : frM I K2 := f1.e x2 n2
      obtain ⟨K3, e3, f3, x3⟩ := xSh (h := h) (L' := L2) (d + 96) hw hi f2 ha hb (uO (aS A) 24)
      refine ⟨(K3, L2), ?_, f3, r2.of (by show K3 139 1 = _; rw [x3 139 (by simp)]) rfl, l2 4 (by omega)⟩
      rw [e_Mo_shared_0, c_Mo_arePair (d + 96) hi.th.2.2.1.1 hW, k_I, k_1, k_2, k_3, hxy, if_neg (show ¬ fl true = 0 by decide), show (.int 0 : Value) = .int (nI 0) from rfl, e1, k_I, k_1, k_2, k_3, e2, k_V, k_1, k_2, k_3, hi.st3 hw f2, e3, k_I, k_1, k_2, k_3]
end OX

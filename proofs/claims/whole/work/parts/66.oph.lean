/-! Questions; looks, kinds. -/
abbrev sIL : Type := (Nat → Nat → Int32) × (Nat → Nat → Int64)
def qC (h : Bool × Nat × Nat) (d : Nat) (Mc : ev_Me) (as : List Value) (A : aP) (t : Nat × (Nat → Int64)) (v : Int32) : Prop := ∀ I L, invC I L A → ∃ p : sIL, ev_do (d + 100) Mc (.ref 0 :: as) (ev_mk h I L) = ev_ri v (ev_mk h p.1 p.2) ∧ frC I p.1 ∧ rwC p.1 p.2 t ∧ p.2 140 = L 140
def qM (h : Bool × Nat × Nat) (d : Nat) (Mm : ev_Me) (as : List Value) (A : aP) (t : Nat × (Nat → Int64)) (v : Int32) : Prop := ∀ I L, invM I L A → ∃ p : sIL, ev_do (d + 100) Mm (.ref 139 :: as) (ev_mk h I L) = ev_ri v (ev_mk h p.1 p.2) ∧ frM I p.1 ∧ rwM p.1 p.2 t ∧ p.2 4 = L 4
theorem ok_q {h : Bool × Nat × Nat} {d : Nat} {Mc Mm : ev_Me} {as : List Value} (H : ∀ A, wfA A → ∃ v t, t.1 ≤ 9 ∧ qC h d Mc as A t v ∧ qM h d Mm as A t v) {I : Nat → Nat → Int32} {L : Nat → Nat → Int64} (hi : inv I L) : okI h d Mc Mm as I L := by
  refine ok_of (fun A hw => ?_) hi
  obtain ⟨v, t, ht, h1, h2⟩ := H A hw
  refine ⟨v, sRw A t, hw.rw ht, fun I L hi => ?_, fun I L hi => ?_⟩
  · obtain ⟨p, e, f, r, l⟩ := h1 I L hi
    exact ⟨p.1, p.2, e, hi.q f r, f.hi, l⟩
  · obtain ⟨p, e, f, r, l⟩ := h2 I L hi
    exact ⟨p.1, p.2, e, hi.q f r, f.lo, l⟩
/-- refused, or nothing told -/
theorem qC_no {h : Bool × Nat × Nat} {d : Nat} {Mc : ev_Me} {as : List Value} {A : aP} {v : Int32} (H : ∀ I L, invC I L A → ∃ K, ev_do (d + 100) Mc (.ref 0 :: as) (ev_mk h I L) = ev_ri v (ev_mk h K L) ∧ frC I K ∧ K 3 1 = I 3 1) : qC h d Mc as A (aRw A) v := fun I L hi => by
  obtain ⟨K, e, f, k⟩ := H I L hi
  exact ⟨(K, L), e, f, hi.2.1.of k rfl, rfl⟩
theorem qM_no {h : Bool × Nat × Nat} {d : Nat} {Mm : ev_Me} {as : List Value} {A : aP} {v : Int32} (H : ∀ I L, invM I L A → ∃ K, ev_do (d + 100) Mm (.ref 139 :: as) (ev_mk h I L) = ev_ri v (ev_mk h K L) ∧ frM I K ∧ K 139 1 = I 139 1) : qM h d Mm as A (aRw A) v := fun I L hi => by
  obtain ⟨K, e, f, k⟩ := H I L hi
  exact ⟨(K, L), e, f, hi.2.1.of k rfl, rfl⟩
theorem no_q {h : Bool × Nat × Nat} {d : Nat} {Mc Mm : ev_Me} {as : List Value} {A : aP} {v : Int32} (hw : wfA A) (h1 : ∀ I L, invC I L A → ev_do (d + 100) Mc (.ref 0 :: as) (ev_mk h I L) = ev_ri v (ev_mk h I L)) (h2 : ∀ I L, invM I L A → ev_do (d + 100) Mm (.ref 139 :: as) (ev_mk h I L) = ev_ri v (ev_mk h (ev_up I 139 0 0) L)) : ∃ v t, t.1 ≤ 9 ∧ qC h d Mc as A t v ∧ qM h d Mm as A t v := ⟨v, aRw A, hw.2.1, qC_no (fun I L hi => ⟨I, h1 I L hi, frC.rf, rfl⟩), qM_no (fun I L hi => ⟨_, h2 I L hi, frM.t0, u_j (by omega)⟩)⟩
def rowL (l : List Nat) : Nat × (Nat → Int64) := l.foldl (fun t a => snoc t (nI a).toInt64) nil0
theorem rowL_app (l : List Nat) (a : Nat) : rowL (l ++ [a]) = snoc (rowL l) (nI a).toInt64 := by simp [rowL]
theorem rowL_len (l : List Nat) : (rowL l).1 = l.length := by
  have : ∀ (l : List Nat) (t : Nat × (Nat → Int64)), (l.foldl (fun t a => snoc t (nI a).toInt64) t).1 = t.1 + l.length := by
    intro l
    induction l with
    | nil => intro t; rfl
    | cons a l ih => intro t; rw [List.foldl_cons, ih, List.length_cons]; show t.1 + 1 + _ = _; omega
  rw [rowL, this]
  show 0 + _ = _
  omega
/-- scanning: the first i below w with P, or w -/
def fS (P : Nat → Bool) : Nat → Nat → Nat
  | 0, i => i
  | m + 1, i => if P i then i else fS P m (i + 1)
section OH
variable {h : Bool × Nat × Nat} {d : Nat} {I J : Nat → Nat → Int32} {L : Nat → Nat → Int64} {A : aP}
theorem op_looks {x y : Int32} (hi : inv I L) : okI h d M_SL_looks M_Mo_looks [.int x, .int y] I L := by
  refine ok_q (fun A hw => ?_) hi
  have hW := hw.2.2.1.1
  cases hx : blw x (aBk A).1 with
  | false =>
    refine no_q (v := -1) hw (fun I L hi => ?_) (fun I L hi => ?_)
    · rw [e_SL_looks_0, c_Book_has (d + 98) hi.2.2.1.1.1, k_I, k_1, k_2, k_3, hx, if_pos (show fl false = 0 from rfl)]
    · rw [e_Mo_looks_0, c_Mo_isWord (d + 97) hi.th.2.2.1.1 hW, k_I, k_1, k_2, k_3, hx, if_pos (show fl false = 0 from rfl)]
  | true =>
    obtain ⟨w, hw', rfl⟩ := (blw_iff (by omega)).mp hx
    cases hy : blw y 256 with
    | false =>
      refine no_q (v := -1) hw (fun I L hi => ?_) (fun I L hi => ?_)
      · rw [e_SL_looks_0, c_Book_has (d + 98) hi.2.2.1.1.1, k_I, k_1, k_2, k_3, hx, if_neg (show ¬ fl true = 0 by decide), c_isSet, k_I, k_1, k_2, k_3, hy, if_pos (show fl false = 0 from rfl)]
      · rw [e_Mo_looks_0, c_Mo_isWord (d + 97) hi.th.2.2.1.1 hW, k_I, k_1, k_2, k_3, hx, if_neg (show ¬ fl true = 0 by decide), c_in255, k_I, k_1, k_2, k_3, hy, if_pos (show fl false = 0 from rfl)]
    | true =>
      obtain ⟨st, hst, rfl⟩ := (blw_iff (by omega)).mp hy
      have h8 := lk_len hw hw' st
      have hwB := hw.2.2.1.2 w (by omega)
      refine ⟨nI (lk A w st).length, rowL (lk A w st), by rw [rowL_len]; omega, fun I L hi => ?_, fun I L hi => ?_⟩
      · rw [e_SL_looks_0, c_Book_has (d + 98) hi.2.2.1.1.1, k_I, k_1, k_2, k_3, hx, if_neg (show ¬ fl true = 0 by decide), c_isSet, k_I, k_1, k_2, k_3, hy, if_neg (show ¬ fl true = 0 by decide), xGn (d + 97) hw hi frC.rf hw' st, k_I, k_1, k_2, k_3]
        refine lpX (F := fun i (p : sIL) => ev_at (d + 99) M_SL_looks 45 [.ref 0, .int (nI w), .float 0, .int (nI (gnA A w st)), .int (nI i)] [] (ev_mk h p.1 p.2)) (fun i p => frC I p.1 ∧ rwC p.1 p.2 (rowL (looks ((aBk A).2.2 w) i (uO (aS A) w) st)) ∧ p.2 140 = L 140) ((aBk A).2.1 w) ?_ ?_ 0 (by omega) (ev_up I 3 1 0, L) ⟨frC.rf.t1 _, rwC.nil, rfl⟩
        · intro i p hi' ⟨p1, p2, p3⟩
          have hl := (hi.bk p1).1.2.2 w (by omega)
          have eL : looks ((aBk A).2.2 w) (i + 1) (uO (aS A) w) st = looks ((aBk A).2.2 w) i (uO (aS A) w) st ++ (if ((uO (aS A) w).testBit i && st.testBit ((aBk A).2.2 w i)) then [] else [(aBk A).2.2 w i]) := rfl
          have hgb := gnA_bit hw hw' st i
          rw [decide_eq_true hi', Bool.true_and] at hgb
          have hle := looks_len ((aBk A).2.2 w) i (uO (aS A) w) st
          cases hb : ((uO (aS A) w).testBit i && st.testBit ((aBk A).2.2 w i)) with
          | true =>
            rw [hb] at hgb eL
            rw [if_pos rfl, List.append_nil] at eL
            refine Or.inl ⟨p, ?_, p1, by rw [eL]; exact p2, p3⟩
            rw [e_SL_looks_45]
            simp (disch := first | omega | assumption) only [hl.1, hgb, Bool.true_eq_false, k_I, k_L, k_V, k_1, k_2, k_3, q_cl, z_in, z_lt_t, z_lt_f, z_eq_t, z_eq_f, q_add, q_sub, q_mul, z_tt, z_bit, z_shl, u_at, u_c, u_j, fa_or, z_fl, z_flf, eq_self, ↓reduceIte, z_0, z_1, z_2, z_3, z_4, z_5, z_6, z_7, z_8, z_9, z_10, z_12, z_15, z_16, z_24, z_27, z_40, z_60, z_79, z_80, z_99, z_255, z_256, z_405, z_432, z_9999, z_1000000]
          | false =>
            rw [hb] at hgb eL
            rw [if_neg (by decide)] at eL
            obtain ⟨K, L1, e1, x1, l1, r1⟩ := t_tell (h := h) (x := (nI ((aBk A).2.2 w i)).toInt64) (d + 98) p2 (by rw [rowL_len]; omega)
            refine Or.inl ⟨(K, L1), ?_, p1.x x1 (by simp [scC]), by rw [eL, rowL_app]; exact r1, (l1 140 (by omega)).trans p3⟩
            rw [e_SL_looks_45, q_in (by omega), if_pos (by simp <;> omega), q_cl (by omega), hl.1, if_pos ((q_lt (by omega) (by omega)).mpr hi'), x_bit (by omega), hgb, if_neg (show ¬ false = true by decide), if_pos rfl, if_pos (by simp <;> omega), x_row (by omega) (by omega), (hl.2.2 i hi').1, e1, k_V, k_1, k_2, k_3, show nI i + 1 = nI (i + 1) from q_add i 1]
        · intro p ⟨p1, p2, p3⟩
          have hl := (hi.bk p1).1.2.2 w (by omega)
          have e3 : p.1 3 1 = nI (lk A w st).length := by rw [p2.1, rowL_len]; rfl
          refine ⟨p, ?_, p1, p2, p3⟩
          rw [e_SL_looks_45]; simp (disch := first | omega | assumption) only [hl.1, e3, k_I, k_L, k_V, k_1, k_2, k_3, q_cl, z_in, z_lt_t, z_lt_f, z_eq_t, z_eq_f, q_add, q_sub, q_mul, z_tt, z_bit, z_shl, u_at, u_c, u_j, fa_or, z_fl, z_flf, eq_self, ↓reduceIte, z_0, z_1, z_2, z_3, z_4, z_5, z_6, z_7, z_8, z_9, z_10, z_12, z_15, z_16, z_24, z_27, z_40, z_60, z_79, z_80, z_99, z_255, z_256, z_405, z_432, z_9999, z_1000000]
      · have ht := hi.th
        obtain ⟨I1, e1, x1, f1⟩ := c_Mo_lays (h := h) (L := L) (d + 97) ht.2.2.1 (k := 153) (w := w) (u := uO (aS A) w) (s := st) (Or.inl rfl) (by omega)
        have fr1 : frM I I1 := frM.t0.x x1 (by simp [scM])
        rw [e_Mo_looks_0, c_Mo_isWord (d + 97) hi.th.2.2.1.1 hW, k_I, k_1, k_2, k_3, hx, if_neg (show ¬ fl true = 0 by decide), c_in255, k_I, k_1, k_2, k_3, hy, if_neg (show ¬ fl true = 0 by decide), q_in (by omega), if_pos (by simp <;> omega), q_cl (by omega), ht.u hw frM.rf w hw', e1, k_I, k_1, k_2, k_3]
        refine lpX (F := fun i (p : sIL) => ev_at (d + 99) M_Mo_looks 52 [.ref 139, .float 0, .float 0, .int (nI (lk A w st).length), .int (nI i)] [] (ev_mk h p.1 p.2)) (fun i p => frM I p.1 ∧ rwM p.1 p.2 (rowL ((lk A w st).take i)) ∧ p.2 4 = L 4 ∧ p.1 153 = I1 153) (lk A w st).length ?_ ?_ 0 (by omega) (ev_up I1 139 1 0, L) ⟨fr1.t1 _, rwM.nil, rfl, (by show ev_up I1 139 1 0 153 = I1 153; exact u_cf (by omega))⟩
        · intro i p hi' ⟨p1, p2, p3, p4⟩
          obtain ⟨K, L1, e2, x2, n2, l2, r2⟩ := t_enters (h := h) (x := (nI ((lk A w st).getD i 0)).toInt64) (d + 98) p2 (by rw [rowL_len, List.length_take]; omega)
          have e153 : p.1 153 i = nI ((lk A w st).getD i 0) := by rw [p4]; exact f1 i hi'
          refine Or.inl ⟨(K, L1), ?_, p1.e x2 n2, ?_, (l2 4 (by omega)).trans p3, (x2 153 (by simp)).trans p4⟩
          · rw [e_Mo_looks_52, if_pos ((q_lt (by omega) (by omega)).mpr hi'), q_in (by omega), if_pos (by simp <;> omega), q_cl (by omega), e153, e2, k_V, k_1, k_2, k_3, show nI i + 1 = nI (i + 1) from q_add i 1]
          · rw [List.take_add_one, List.getElem?_eq_getElem hi']
            have : (lk A w st).getD i 0 = (lk A w st)[i] := by rw [List.getD_eq_getElem?_getD, List.getElem?_eq_getElem hi']; rfl
            rw [this] at r2
            show rwM K L1 (rowL (List.take i (lk A w st) ++ [(lk A w st)[i]]))
            rw [rowL_app]
            exact r2
        · intro p ⟨p1, p2, p3, p4⟩
          refine ⟨p, ?_, p1, by rw [List.take_of_length_le (Nat.le_refl _)] at p2; exact p2, p3⟩
          rw [e_Mo_looks_52]; simp (disch := first | omega | assumption) only [k_I, k_L, k_V, k_1, k_2, k_3, q_cl, z_in, z_lt_t, z_lt_f, z_eq_t, z_eq_f, q_add, q_sub, q_mul, z_tt, z_bit, z_shl, u_at, u_c, u_j, fa_or, z_fl, z_flf, eq_self, ↓reduceIte, z_0, z_1, z_2, z_3, z_4, z_5, z_6, z_7, z_8, z_9, z_10, z_12, z_15, z_16, z_24, z_27, z_40, z_60, z_79, z_80, z_99, z_255, z_256, z_405, z_432, z_9999, z_1000000]
theorem fS_hit {P : Nat → Bool} {m i : Nat} (h : P i = true) : fS P (m + 1) i = i := by rw [fS, if_pos h]
theorem fS_no {P : Nat → Bool} {m i : Nat} (h : P i = false) : fS P (m + 1) i = fS P m (i + 1) := by rw [fS, if_neg (by rw [h]; decide)]
theorem fS_le (P : Nat → Bool) : ∀ m i, fS P m i ≤ i + m
  | 0, i => Nat.le_refl _
  | m + 1, i => by
    rw [fS]
    split
    · omega
    · have := fS_le P m (i + 1); omega
/-- the first word that is one with w -/
def fst1 (A : aP) (st w : Nat) : Nat := fS (fun v => on A v w st) w 0
def rowF (g : Nat → Int64) : Nat → Nat × (Nat → Int64)
  | 0 => nil0
  | i + 1 => snoc (rowF g i) (g i)
theorem rowF_len (g : Nat → Int64) : ∀ i, (rowF g i).1 = i
  | 0 => rfl
  | i + 1 => congrArg (· + 1) (rowF_len g i)
theorem on_self (A : aP) (a st : Nat) : on A a a st = true := decide_eq_true rfl
theorem op_kinds {x : Int32} (hi : inv I L) : okI h d M_SL_kinds M_Mo_kinds [.int x] I L := by
  refine ok_q (fun A hw => ?_) hi
  have hW := hw.2.2.1.1
  cases hx : blw x 256 with
  | false =>
    refine no_q (v := -1) hw (fun I L hi => ?_) (fun I L hi => ?_)
    · rw [e_SL_kinds_0, c_isSet, k_I, k_1, k_2, k_3, hx, if_pos (show fl false = 0 from rfl)]
    · rw [e_Mo_kinds_0, c_in255, k_I, k_1, k_2, k_3, hx, if_pos (show fl false = 0 from rfl)]
  | true =>
    obtain ⟨st, hst, rfl⟩ := (blw_iff (by omega)).mp hx
    refine ⟨nI (fb_ct (fun w => decide (fst1 A st w = w)) (aBk A).1), rowF (fun w => (nI (fst1 A st w)).toInt64) (aBk A).1, by rw [rowF_len]; omega, fun I L hi => ?_, fun I L hi => ?_⟩
    · obtain ⟨I1, e1, f1, x1, c1⟩ := xSp (h := h) (L' := L) (d + 95) hw hi frC.rf st
      rw [e_SL_kinds_0, c_isSet, k_I, k_1, k_2, k_3, hx, if_neg (show ¬ fl true = 0 by decide), e1, k_V, k_1, k_2, k_3]
      refine lpX (F := fun i (p : sIL) => ev_at (d + 99) M_SL_kinds 37 [.ref 0, .float 0, .int (nI (fb_ct (fun w => decide (fst1 A st w = w)) i)), .int (nI i), .float 0] [] (ev_mk h p.1 p.2)) (fun i p => frC I p.1 ∧ rwC p.1 p.2 (rowF (fun w => (nI (fst1 A st w)).toInt64) i) ∧ p.2 140 = L 140 ∧ p.1 133 = I1 133) (aBk A).1 ?_ ?_ 0 (by omega) (ev_up I1 3 1 0, L) ⟨f1.t1 _, rwC.nil, rfl, (by show ev_up I1 3 1 0 133 = I1 133; exact u_cf (by omega))⟩
      · intro i p hi' ⟨p1, p2, p3, p4⟩
        have c133 : ∀ v, v < (aBk A).1 → p.1 133 v = nI (cod (lk A v st)) := fun v hv => by rw [p4]; exact c1 v hv
        have efl : ev_do (d + 99) M_SL_firstLike [.ref 0, .int (nI i)] (ev_mk h p.1 p.2) = ev_ri (nI (fst1 A st i)) (ev_mk h p.1 p.2) := by
          rw [e_SL_firstLike_0]
          refine lpE (F := fun v (_ : Unit) => ev_at (d + 98) M_SL_firstLike 2 [.ref 0, .int (nI i), .int (nI v)] [] (ev_mk h p.1 p.2)) (fun v _ => fS (fun v => on A v i st) (i - v) v = fst1 A st i) (fun o => o = ev_ri (nI (fst1 A st i)) (ev_mk h p.1 p.2)) i ?_ ?_ 0 (by omega) () rfl
          · intro v _ hv hs
            rw [show i - v = (i - (v + 1)) + 1 by omega] at hs
            cases ho : on A v i st with
            | true =>
              rw [fS_hit (P := fun v => on A v i st) ho] at hs
              refine Or.inr ?_
              have := (cod_on hw (show v < (aBk A).1 by omega) hi' st).mpr ho
              rw [← hs, e_SL_firstLike_2]
              simp (disch := first | omega | assumption) only [c133 v (by omega), c133 i hi', this, k_I, k_L, k_V, k_1, k_2, k_3, q_cl, z_in, z_lt_t, z_lt_f, z_eq_t, z_eq_f, q_add, q_sub, q_mul, z_tt, z_bit, z_shl, u_at, u_c, u_j, fa_or, z_fl, z_flf, eq_self, ↓reduceIte, z_0, z_1, z_2, z_3, z_4, z_5, z_6, z_7, z_8, z_9, z_10, z_12, z_15, z_16, z_24, z_27, z_40, z_60, z_79, z_80, z_99, z_255, z_256, z_405, z_432, z_9999, z_1000000]
            | false =>
              rw [fS_no (P := fun v => on A v i st) ho] at hs
              refine Or.inl ⟨(), ?_, hs⟩
              have : ¬ nI (cod (lk A v st)) = nI (cod (lk A i st)) := fun z => by
                rw [(cod_on hw (show v < (aBk A).1 by omega) hi' st).mp z] at ho; cases ho
              rw [e_SL_firstLike_2]
              simp (disch := first | omega | assumption) only [c133 v (by omega), c133 i hi', this, k_I, k_L, k_V, k_1, k_2, k_3, q_cl, z_in, z_lt_t, z_lt_f, z_eq_t, z_eq_f, q_add, q_sub, q_mul, z_tt, z_bit, z_shl, u_at, u_c, u_j, fa_or, z_fl, z_flf, eq_self, ↓reduceIte, z_0, z_1, z_2, z_3, z_4, z_5, z_6, z_7, z_8, z_9, z_10, z_12, z_15, z_16, z_24, z_27, z_40, z_60, z_79, z_80, z_99, z_255, z_256, z_405, z_432, z_9999, z_1000000]
          · intro _ hs
            rw [Nat.sub_self] at hs
            have hs' : i = fst1 A st i := hs
            rw [e_SL_firstLike_2, ← hs']
            simp (disch := first | omega | assumption) only [k_I, k_L, k_V, k_1, k_2, k_3, q_cl, z_in, z_lt_t, z_lt_f, z_eq_t, z_eq_f, q_add, q_sub, q_mul, z_tt, z_bit, z_shl, u_at, u_c, u_j, fa_or, z_fl, z_flf, eq_self, ↓reduceIte, z_0, z_1, z_2, z_3, z_4, z_5, z_6, z_7, z_8, z_9, z_10, z_12, z_15, z_16, z_24, z_27, z_40, z_60, z_79, z_80, z_99, z_255, z_256, z_405, z_432, z_9999, z_1000000]
        have hfl : fst1 A st i ≤ i := by have := fS_le (fun v => on A v i st) i 0; unfold fst1; omega
        obtain ⟨K, L1, e2, x2, l2, r2⟩ := t_tell (h := h) (x := (nI (fst1 A st i)).toInt64) (d + 98) p2 (by rw [rowF_len]; omega)
        refine Or.inl ⟨(K, L1), ?_, p1.x x2 (by simp [scC]), r2, (l2 140 (by omega)).trans p3, (x2 133 (by simp)).trans p4⟩
        rw [fb_ct_succ, e_SL_kinds_37, (hi.bk p1).1.1, if_pos ((q_lt (by omega) (by omega)).mpr hi'), efl, k_I, k_1, k_2, k_3]
        by_cases e : fst1 A st i = i
        · rw [if_pos (by rw [e]), e_SL_kinds_67, e2, k_V, k_1, k_2, k_3, decide_eq_true e, show nI i + 1 = nI (i + 1) from q_add i 1, show (1 : Int32) = nI 1 from rfl, q_add]; rfl
        · rw [if_neg (fun z => e ((q_eq (by omega) (by omega)).mp z)), e_SL_kinds_67, e2, k_V, k_1, k_2, k_3, decide_eq_false e, show nI i + 1 = nI (i + 1) from q_add i 1, show (0 : Int32) = nI 0 from rfl, q_add]; rfl
      · intro p ⟨p1, p2, p3, p4⟩
        refine ⟨p, ?_, p1, p2, p3⟩
        rw [e_SL_kinds_37]; simp (disch := first | omega | assumption) only [(hi.bk p1).1.1, k_I, k_L, k_V, k_1, k_2, k_3, q_cl, z_in, z_lt_t, z_lt_f, z_eq_t, z_eq_f, q_add, q_sub, q_mul, z_tt, z_bit, z_shl, u_at, u_c, u_j, fa_or, z_fl, z_flf, eq_self, ↓reduceIte, z_0, z_1, z_2, z_3, z_4, z_5, z_6, z_7, z_8, z_9, z_10, z_12, z_15, z_16, z_24, z_27, z_40, z_60, z_79, z_80, z_99, z_255, z_256, z_405, z_432, z_9999, z_1000000]
    · rw [e_Mo_kinds_0, c_in255, k_I, k_1, k_2, k_3, hx, if_neg (show ¬ fl true = 0 by decide)]
      refine lpX (F := fun i (p : sIL) => ev_at (d + 99) M_Mo_kinds 28 [.ref 139, .int (nI st), .int (nI (fb_ct (fun w => decide (fst1 A st w = w)) i)), .int (nI i), .float 0] [] (ev_mk h p.1 p.2)) (fun i p => frM I p.1 ∧ rwM p.1 p.2 (rowF (fun w => (nI (fst1 A st w)).toInt64) i) ∧ p.2 4 = L 4) (aBk A).1 ?_ ?_ 0 (by omega) (ev_up (ev_up I 139 0 0) 139 1 0, L) ⟨frM.t0.t1 _, rwM.nil, rfl⟩
      · intro i p hi' ⟨p1, p2, p3⟩
        refine Or.inl ?_
        have hfl : fst1 A st i ≤ i := by have := fS_le (fun v => on A v i st) i 0; unfold fst1; omega
        have efl : ∃ K, ev_at (d + 99) M_Mo_kinds 39 [.ref 139, .int (nI st), .int (nI (fb_ct (fun w => decide (fst1 A st w = w)) i)), .int (nI i), .int (nI 0)] [] (ev_mk h p.1 p.2) = ev_at (d + 99) M_Mo_kinds 72 [.ref 139, .int (nI st), .float 0, .int (nI i), .int (nI (fst1 A st i))] [.int (fl (decide (fst1 A st i = i))), .int (nI (fb_ct (fun w => decide (fst1 A st w = w)) i))] (ev_mk h K p.2) ∧ exc [153, 154] p.1 K := by
          refine lpX (F := fun v J => ev_at (d + 99) M_Mo_kinds 39 [.ref 139, .int (nI st), .int (nI (fb_ct (fun w => decide (fst1 A st w = w)) i)), .int (nI i), .int (nI v)] [] (ev_mk h J p.2)) (fun v J => fS (fun v => on A v i st) (i - v) v = fst1 A st i ∧ exc [153, 154] p.1 J) i ?_ ?_ 0 (by omega) p.1 ⟨rfl, exc.rf⟩
          · intro v J hv ⟨hs, q1⟩
            obtain ⟨K, g1, g2, g3⟩ := xOne (h := h) (L' := p.2) (d + 96) hw hi (p1.x q1 (by simp [scM])) (show v < (aBk A).1 by omega) hi' st
            rw [show i - v = (i - (v + 1)) + 1 by omega] at hs
            cases ho : on A v i st with
            | true =>
              rw [fS_hit (P := fun v => on A v i st) ho] at hs
              rw [ho] at g1
              refine Or.inr ⟨K, ?_, q1.tr g3⟩
              rw [← hs, e_Mo_kinds_39, g1, k_I, k_1, k_2, k_3, if_neg (show ¬ fl true = 0 by decide), if_neg (fun z => absurd ((q_eq (by omega) (by omega)).mp z) (by omega)), decide_eq_false (show ¬ v = i by omega)]
              rfl
            | false =>
              rw [fS_no (P := fun v => on A v i st) ho] at hs
              rw [ho] at g1
              refine Or.inl ⟨K, ?_, hs, q1.tr g3⟩
              rw [e_Mo_kinds_39, g1, k_I, k_1, k_2, k_3, if_pos (show fl false = 0 from rfl), show nI v + 1 = nI (v + 1) from q_add v 1]
          · intro J ⟨hs, q1⟩
            rw [Nat.sub_self] at hs
            have hs' : i = fst1 A st i := hs
            obtain ⟨K, g1, g2, g3⟩ := xOne (h := h) (L' := p.2) (d + 96) hw hi (p1.x q1 (by simp [scM])) hi' hi' st
            rw [on_self] at g1
            refine ⟨K, ?_, q1.tr g3⟩
            rw [← hs', e_Mo_kinds_39, g1, k_I, k_1, k_2, k_3, if_neg (show ¬ fl true = 0 by decide), if_pos rfl, decide_eq_true rfl]
            rfl
        obtain ⟨K, e1, x1⟩ := efl
        obtain ⟨K2, L2, e2, x2, n2, l2, r2⟩ := t_enters (h := h) (I := K) (x := (nI (fst1 A st i)).toInt64) (d + 98) (p2.of (by rw [x1 139 (by simp)]) rfl) (by rw [rowF_len]; omega)
        refine ⟨(K2, L2), ?_, (p1.x x1 (by simp [scM])).e x2 n2, r2, (l2 4 (by omega)).trans p3⟩
        rw [fb_ct_succ, e_Mo_kinds_28, (hi.bk p1).1, if_pos ((q_lt (by omega) (by omega)).mpr hi')]
        refine e1.trans ?_
        rw [e_Mo_kinds_72, c_Mo_flag (d + 98), k_I, k_1, k_2, k_3, e2, k_V, k_1, k_2, k_3, fl_or, q_add, show nI i + 1 = nI (i + 1) from q_add i 1]
      · intro p ⟨p1, p2, p3⟩
        refine ⟨p, ?_, p1, p2, p3⟩
        rw [e_Mo_kinds_28]; simp (disch := first | omega | assumption) only [(hi.bk p1).1, k_I, k_L, k_V, k_1, k_2, k_3, q_cl, z_in, z_lt_t, z_lt_f, z_eq_t, z_eq_f, q_add, q_sub, q_mul, z_tt, z_bit, z_shl, u_at, u_c, u_j, fa_or, z_fl, z_flf, eq_self, ↓reduceIte, z_0, z_1, z_2, z_3, z_4, z_5, z_6, z_7, z_8, z_9, z_10, z_12, z_15, z_16, z_24, z_27, z_40, z_60, z_79, z_80, z_99, z_255, z_256, z_405, z_432, z_9999, z_1000000]
end OH

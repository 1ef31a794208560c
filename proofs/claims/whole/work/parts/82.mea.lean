/-! How far words are apart. -/
def edR (prev : Nat → Nat) (xi : Nat) (y : Nat → Nat) (i : Nat) : Nat → Nat
  | 0 => i + 1
  | j + 1 => min (prev j + if xi = y j then 0 else 1) (min (prev (j + 1)) (edR prev xi y i j) + 1)
def ed (x y : Nat → Nat) : Nat → Nat → Nat
  | 0 => fun j => j
  | i + 1 => edR (ed x y i) (x i) y i
theorem ed_0 (x y : Nat → Nat) (j : Nat) : ed x y 0 j = j := rfl
theorem ed_i0 (x y : Nat → Nat) (i : Nat) : ed x y i 0 = i := by cases i <;> rfl
theorem ed_ss (x y : Nat → Nat) (i j : Nat) : ed x y (i + 1) (j + 1) = min (ed x y i j + if x i = y j then 0 else 1) (min (ed x y i (j + 1)) (ed x y (i + 1) j) + 1) := rfl
theorem ed_le (x y : Nat → Nat) : ∀ i j, ed x y i j ≤ i + j
  | 0, j => by rw [ed_0]; omega
  | i + 1, 0 => by rw [ed_i0]; omega
  | i + 1, j + 1 => by
    have h1 := ed_le x y i j
    rw [ed_ss]
    split <;> omega
theorem ed_sym (x y : Nat → Nat) : ∀ n i j, i + j ≤ n → ed x y i j = ed y x j i := by
  intro n
  induction n with
  | zero =>
    intro i j hn
    have h1 : i = 0 := by omega
    have h2 : j = 0 := by omega
    rw [h1, h2]; rfl
  | succ n ih =>
    intro i j hn
    cases i with
    | zero => rw [ed_0, ed_i0]
    | succ i =>
      cases j with
      | zero => rw [ed_i0, ed_0]
      | succ j =>
        rw [ed_ss, ed_ss, ih i j (by omega), ih i (j + 1) (by omega), ih (i + 1) j (by omega)]
        have : (if x i = y j then 0 else 1) = (if y j = x i then 0 else 1) := by
          by_cases e : x i = y j
          · rw [if_pos e, if_pos e.symm]
          · rw [if_neg e, if_neg (fun z => e z.symm)]
        rw [this, Nat.min_comm (ed y x (j + 1) i)]
def cmR (prev : Nat → Nat) (xi : Nat) (y : Nat → Nat) : Nat → Nat
  | 0 => 0
  | j + 1 => if xi = y j then prev j + 1 else max (prev (j + 1)) (cmR prev xi y j)
def cm (x y : Nat → Nat) : Nat → Nat → Nat
  | 0 => fun _ => 0
  | i + 1 => cmR (cm x y i) (x i) y
theorem cm_i0 (x y : Nat → Nat) (i : Nat) : cm x y i 0 = 0 := by cases i <;> rfl
theorem cm_ss (x y : Nat → Nat) (i j : Nat) : cm x y (i + 1) (j + 1) = if x i = y j then cm x y i j + 1 else max (cm x y i (j + 1)) (cm x y (i + 1) j) := rfl
theorem cm_B {x y : Nat → Nat} {i : Nat} (hA : ∀ j, cm x y i j ≤ cm x y i (j + 1) ∧ cm x y i (j + 1) ≤ cm x y i j + 1) : ∀ j, cm x y i j ≤ cm x y (i + 1) j ∧ cm x y (i + 1) j ≤ cm x y i j + 1
  | 0 => by rw [cm_i0, cm_i0]; omega
  | j + 1 => by
    have h1 := cm_B hA j
    have h2 := hA j
    rw [cm_ss]
    split <;> omega
theorem cm_A (x y : Nat → Nat) : ∀ i j, cm x y i j ≤ cm x y i (j + 1) ∧ cm x y i (j + 1) ≤ cm x y i j + 1
  | 0, j => ⟨Nat.le_refl _, Nat.zero_le _⟩
  | i + 1, j => by
    have h1 := cm_A x y i j
    have h2 := cm_B (fun j => cm_A x y i j) j
    rw [cm_ss]
    split <;> omega
theorem cm_le (x y : Nat → Nat) : ∀ i j, cm x y i j ≤ i
  | 0, j => Nat.le_refl _
  | i + 1, j => by
    have h1 := cm_le x y i j
    have h2 := (cm_B (fun j => cm_A x y i j) j).2
    omega
section ME
variable {h : Bool × Nat × Nat} {d : Nat} {I J : Nat → Nat → Int32} {L : Nat → Nat → Int64} {A : aP}
theorem x_tab {i j : Nat} (hi : i < 9) (hj : j < 9) (k : Int32 → Option ev_R) : ev_aI (ev_mk h I L) (ev_rv (ev_R0 117 i)) (nI j) k = k (I (118 + i) j) := by
  have e : ∀ c : Nat, (if ev_in (nI j) 9 then k (I c (nI j).toNatClampNeg) else none) = k (I c j) := by
    intro c
    rw [q_in (by omega), if_pos (by simpa using hj), q_cl (by omega)]
  match i, hi with
  | 0, _ => exact e 118
  | 1, _ => exact e 119
  | 2, _ => exact e 120
  | 3, _ => exact e 121
  | 4, _ => exact e 122
  | 5, _ => exact e 123
  | 6, _ => exact e 124
  | 7, _ => exact e 125
  | 8, _ => exact e 126
theorem x_tbs {i j : Nat} (hi : i < 9) (hj : j < 9) {v : Int32} (k : (Nat → Nat → Int32) → Option ev_R) : ev_sI (ev_mk h I L) (ev_rv (ev_R0 117 i)) (nI j) v k = k (ev_up I (118 + i) j v) := by
  have e : ∀ c : Nat, (if ev_in (nI j) 9 then k (ev_up I c (nI j).toNatClampNeg v) else none) = k (ev_up I c j v) := by
    intro c
    rw [q_in (by omega), if_pos (by simpa using hj), q_cl (by omega)]
  match i, hi with
  | 0, _ => exact e 118
  | 1, _ => exact e 119
  | 2, _ => exact e 120
  | 3, _ => exact e 121
  | 4, _ => exact e 122
  | 5, _ => exact e 123
  | 6, _ => exact e 124
  | 7, _ => exact e 125
  | 8, _ => exact e 126
theorem c_lay (d : Nat) (hw : wfA A) (hi : invC I L A) (f : frC I J) {k w : Nat} (hk : k = 115 ∨ k = 116) (hw' : w < (aBk A).1) (st : Nat) {L' : Nat → Nat → Int64} : ∃ K, ev_do (d + 3) M_Measure_lay [.ref 114, .ref 17, .int (nI w), .int (nI st), .ref k] (ev_mk h J L') = ev_ri (nI (lk A w st).length) (ev_mk h K L') ∧ frC I K ∧ exc [k] J K ∧ ∀ j, j < (lk A w st).length → K k j = nI ((lk A w st).getD j 0) := by
  have hW := hw.2.2.1.1
  have h8 := (hw.2.2.1.2 w (by omega)).1
  rw [e_Measure_lay_0 (hk4 := hk), xGn d hw hi f hw' st, k_I, k_1, k_2, k_3]
  refine lpX (F := fun i K => ev_at (d + 2) M_Measure_lay 18 [.ref 114, .float 0, .int (nI w), .float 0, .ref k, .int (nI (gnA A w st)), .int (nI (looks ((aBk A).2.2 w) i (uO (aS A) w) st).length), .int (nI i)] [] (ev_mk h K L')) (fun i K => frC I K ∧ exc [k] J K ∧ ∀ j, j < (looks ((aBk A).2.2 w) i (uO (aS A) w) st).length → K k j = nI ((looks ((aBk A).2.2 w) i (uO (aS A) w) st).getD j 0)) ((aBk A).2.1 w) ?_ ?_ 0 (by omega) J ⟨f, exc.rf, fun j hj => by simp [looks, look] at hj⟩
  · intro i K hi' ⟨p1, p2, p3⟩
    have hl := (hi.bk p1).1.2.2 w (by omega)
    have eL : looks ((aBk A).2.2 w) (i + 1) (uO (aS A) w) st = looks ((aBk A).2.2 w) i (uO (aS A) w) st ++ (if ((uO (aS A) w).testBit i && st.testBit ((aBk A).2.2 w i)) then [] else [(aBk A).2.2 w i]) := rfl
    have hgb := gnA_bit hw hw' st i
    rw [decide_eq_true hi', Bool.true_and] at hgb
    have hle := looks_len ((aBk A).2.2 w) i (uO (aS A) w) st
    rw [e_Measure_lay_18 (hk4 := hk), q_in (by omega), if_pos (c := decide (w < 8) = true) (by simp <;> omega), q_cl (by omega), hl.1, if_pos ((q_lt (by omega) (by omega)).mpr hi'), show (nI (gnA A w st) >>> (nI i &&& 31)) &&& 1 = fl ((gnA A w st).testBit i) from x_bit (by omega), hgb, eL, show nI i + 1 = nI (i + 1) from q_add i 1]
    cases hb : ((uO (aS A) w).testBit i && st.testBit ((aBk A).2.2 w i)) with
    | true =>
      refine Or.inl ⟨K, ?_, p1, p2, ?_⟩
      · rw [if_neg (show ¬ fl true = 0 by decide), if_pos rfl, List.append_nil]
      · rw [if_pos rfl, List.append_nil]; exact p3
    | false =>
      refine Or.inl ⟨ev_up K k (looks ((aBk A).2.2 w) i (uO (aS A) w) st).length (nI ((aBk A).2.2 w i)), ?_, p1.up (by unfold scC; omega) (by omega) (by omega), p2.up (by simp), fun j hj => ?_⟩
      · rw [if_pos (show fl false = 0 from rfl), if_pos (c := decide (w < 8) = true) (by simp <;> omega), x_row (by omega) (by omega), (hl.2.2 i hi').1, q_in (by omega), if_pos (by simp <;> omega), q_cl (by omega), if_neg (by decide), List.length_append, show nI (looks ((aBk A).2.2 w) i (uO (aS A) w) st).length + 1 = nI ((looks ((aBk A).2.2 w) i (uO (aS A) w) st).length + 1) from q_add _ 1]
        rfl
      · rw [if_neg (by decide)] at hj ⊢
        by_cases e : j = (looks ((aBk A).2.2 w) i (uO (aS A) w) st).length
        · subst e
          rw [u_at]; simp
        · rw [u_j e, p3 j (by simp at hj; omega), List.getD_eq_getElem?_getD, List.getD_eq_getElem?_getD, List.getElem?_append_left (by simp at hj; omega)]
  · intro K ⟨p1, p2, p3⟩
    have hl := (hi.bk p1).1.2.2 w (by omega)
    refine ⟨K, ?_, p1, p2, p3⟩
    rw [e_Measure_lay_18 (hk4 := hk), q_in (by omega), if_pos (by simp <;> omega), q_cl (by omega), hl.1, if_neg (fun z => absurd ((q_lt (by omega) (by omega)).mp z) (by omega))]
    rfl
/-- both are laid -/
def lyd (K : Nat → Nat → Int32) (x y : Nat → Nat) (n m : Nat) : Prop := K 114 3 = nI n ∧ K 114 4 = nI m ∧ (∀ j, j < n → K 115 j = nI (x j)) ∧ ∀ j, j < m → K 116 j = nI (y j)
theorem c_layBoth (d : Nat) (hw : wfA A) (hi : invC I L A) (f : frC I J) {a b : Nat} (ha : a < (aBk A).1) (hb : b < (aBk A).1) (st : Nat) {L' : Nat → Nat → Int64} : ∃ K, ev_do (d + 4) M_Measure_layBoth [.ref 114, .ref 17, .int (nI a), .int (nI b), .int (nI st)] (ev_mk h J L') = ev_rn (ev_mk h K L') ∧ frC I K ∧ exc [114, 115, 116] J K ∧ lyd K (fun j => (lk A a st).getD j 0) (fun j => (lk A b st).getD j 0) (lk A a st).length (lk A b st).length := by
  obtain ⟨K1, e1, f1, x1, c1⟩ := c_lay (h := h) (L' := L') d hw hi f (Or.inl rfl : 115 = 115 ∨ 115 = 116) ha st
  have f2 : frC I (ev_up K1 114 3 (nI (lk A a st).length)) := f1.up (by unfold scC; omega) (by omega) (by omega)
  obtain ⟨K2, e2, f3, x2, c2⟩ := c_lay (h := h) (L' := L') d hw hi f2 (Or.inr rfl : 116 = 115 ∨ 116 = 116) hb st
  refine ⟨ev_up K2 114 4 (nI (lk A b st).length), ?_, f3.up (by unfold scC; omega) (by omega) (by omega), (((x1.mono (by simp)).up (by simp)).tr (x2.mono (by simp))).up (by simp), ?_, u_at _ _ _ _, fun j hj => ?_, fun j hj => ?_⟩
  · rw [e_Measure_layBoth_0, e1, k_I, k_1, k_2, k_3, e2, k_I, k_1, k_2, k_3]
  · rw [u_j (by omega), x2 114 (by simp), u_at]
  · rw [u_c (by omega), x2 115 (by simp), u_c (by omega)]; exact c1 j hj
  · rw [u_c (by omega)]; exact c2 j hj
theorem lyd.tab {K : Nat → Nat → Int32} {x y : Nat → Nat} {n m i j : Nat} {v : Int32} (hy : lyd K x y n m) : lyd (ev_up K (118 + i) j v) x y n m := by
  unfold lyd
  rw [u_cf (by omega), u_cf (by omega), u_cf (by omega)]
  exact hy
def edA (A : aP) (a b st : Nat) : Nat := ed (fun j => (lk A a st).getD j 0) (fun j => (lk A b st).getD j 0) (lk A a st).length (lk A b st).length
def cmA (A : aP) (a b st : Nat) : Nat := cm (fun j => (lk A a st).getD j 0) (fun j => (lk A b st).getD j 0) (lk A a st).length (lk A b st).length
theorem edA_sym (A : aP) (a b st : Nat) : edA A a b st = edA A b a st := ed_sym _ _ _ _ _ (Nat.le_refl _)
theorem edA_le (hw : wfA A) {a b : Nat} (ha : a < (aBk A).1) (hb : b < (aBk A).1) (st : Nat) : edA A a b st ≤ 16 := by
  have h1 := ed_le (fun j => (lk A a st).getD j 0) (fun j => (lk A b st).getD j 0) (lk A a st).length (lk A b st).length
  have h2 := lk_len hw ha st
  have h3 := lk_len hw hb st
  unfold edA
  omega
/-- the table is worked out up to row i, place j -/
def tbl (K : Nat → Nat → Int32) (g : Nat → Nat → Nat) (m i j : Nat) : Prop := ∀ a b, b ≤ m → (a < i ∨ (a = i ∧ b < j)) → K (118 + a) b = nI (g a b)
theorem tbl_up {K : Nat → Nat → Int32} {g : Nat → Nat → Nat} {m i j : Nat} (ht : tbl K g m i j) : tbl (ev_up K (118 + i) j (nI (g i j))) g m i (j + 1) := by
  intro a b hb hab
  by_cases e : a = i ∧ b = j
  · rw [e.1, e.2, u_at]
  · rw [u_no (by omega)]; exact ht a b hb (by omega)
/-- letters laid: they are equal as ints just if they are -/
theorem lt_eq {x y : Nat} (hx : x < 8) (hy : y < 8) : nI x = nI y ↔ x = y := q_eq (by omega) (by omega)
theorem getD_lt (hw : wfA A) {a : Nat} (ha : a < (aBk A).1) (st : Nat) {j : Nat} (hj : j < (lk A a st).length) : (lk A a st).getD j 0 < 8 := by
  rw [List.getD_eq_getElem?_getD, List.getElem?_eq_getElem hj]
  exact lk_lt hw ha st _ (List.getElem_mem hj)
theorem lpG {σ : Type} {F : Nat → σ → Option ev_R} {G : Nat → Nat → σ → Option ev_R} (T : Nat → Nat → σ → Prop) (R : Option ev_R → Prop) (n m : Nat) (h0 : ∀ i s, i ≤ n → T i 0 s → F i s = G i 0 s) (h1 : ∀ i j s, i ≤ n → j ≤ m → T i j s → ∃ s', G i j s = G i (j + 1) s' ∧ T i (j + 1) s') (h2 : ∀ i s, i ≤ n → T i (m + 1) s → G i (m + 1) s = F (i + 1) s ∧ T (i + 1) 0 s) (fin : ∀ s, T (n + 1) 0 s → R (F (n + 1) s)) : ∀ s, T 0 0 s → R (F 0 s) := by
  refine fun s hs => lpE (F := F) (fun i s => T i 0 s) R (n + 1) (fun i s hi ht => Or.inl ?_) fin 0 (by omega) s hs
  obtain ⟨s', e, t⟩ := lpF (F := fun j s => G i j s) (fun j s => T i j s) (m + 1) (fun j s hj ht => h1 i j s (by omega) (by omega) ht) s ht
  obtain ⟨e2, t2⟩ := h2 i s' (by omega) t
  exact ⟨s', by rw [h0 i s (by omega) ht, e, e2], t2⟩
theorem tbl_row {K : Nat → Nat → Int32} {g : Nat → Nat → Nat} {m i : Nat} (ht : tbl K g m i (m + 1)) : tbl K g m (i + 1) 0 := fun a b hb hab => ht a b hb (by omega)
theorem tx {i : Nat} (hi : i < 9) : 118 + i ∈ [114, 115, 116, 118, 119, 120, 121, 122, 123, 124, 125, 126] := by simp; omega
theorem xEd (d : Nat) (hw : wfA A) (hi : invC I L A) (f : frC I J) {a b : Nat} (ha : a < (aBk A).1) (hb : b < (aBk A).1) (st : Nat) {L' : Nat → Nat → Int64} : ∃ K, ev_do (d + 5) M_Measure_edits [.ref 114, .ref 17, .int (nI a), .int (nI b), .int (nI st)] (ev_mk h J L') = ev_ri (nI (edA A a b st)) (ev_mk h K L') ∧ frC I K ∧ exc [114, 115, 116, 118, 119, 120, 121, 122, 123, 124, 125, 126] J K := by
  obtain ⟨K0, e0, f0, x0, y0⟩ := c_layBoth (h := h) (L' := L') d hw hi f ha hb st
  have hn := lk_len hw ha st
  have hm := lk_len hw hb st
  have gx : ∀ j, j < (lk A a st).length → (fun j => (lk A a st).getD j 0) j < 8 := fun j hj => getD_lt hw ha st hj
  have gy : ∀ j, j < (lk A b st).length → (fun j => (lk A b st).getD j 0) j < 8 := fun j hj => getD_lt hw hb st hj
  unfold edA
  generalize (fun j => (lk A a st).getD j 0) = x at *
  generalize (fun j => (lk A b st).getD j 0) = y at *
  generalize (lk A a st).length = n at *
  generalize (lk A b st).length = m at *
  rw [e_Measure_edits_0, e0, k_V, k_1, k_2, k_3]
  have x0' := x0.mono (ks' := [114, 115, 116, 118, 119, 120, 121, 122, 123, 124, 125, 126]) (by simp)
  refine lpG (F := fun i K => ev_at (d + 4) M_Measure_edits 12 [.ref 114, .float 0, .float 0, .float 0, .float 0, .int (nI i), .float 0] [] (ev_mk h K L')) (G := fun i j K => ev_at (d + 4) M_Measure_edits 24 [.ref 114, .float 0, .float 0, .float 0, .float 0, .int (nI i), .int (nI j)] [] (ev_mk h K L')) (fun i j K => (frC I K ∧ exc [114, 115, 116, 118, 119, 120, 121, 122, 123, 124, 125, 126] J K ∧ lyd K x y n m) ∧ tbl K (ed x y) m i j) (fun o => ∃ K, o = ev_ri (nI (ed x y n m)) (ev_mk h K L') ∧ frC I K ∧ exc [114, 115, 116, 118, 119, 120, 121, 122, 123, 124, 125, 126] J K) n m ?_ ?_ ?_ ?_ K0 ⟨⟨f0, x0', y0⟩, fun a b _ z => by omega⟩
  · intro i K hi' ⟨⟨p1, p2, p3⟩, p4⟩
    rw [e_Measure_edits_12, p3.1, if_neg (fun z => absurd ((q_lt (by omega) (by omega)).mp z) (by omega))]
    rfl
  · intro i j K hi' hj ⟨⟨p1, p2, p3⟩, p4⟩
    have hle := ed_le x y i j
    refine ⟨ev_up K (118 + i) j (nI (ed x y i j)), ?_, ⟨p1.up (by unfold scC; omega) (by omega) (by omega), p2.up (tx (by omega)), p3.tab⟩, tbl_up p4⟩
    rw [e_Measure_edits_24, p3.2.1, if_neg (fun z => absurd ((q_lt (by omega) (by omega)).mp z) (by omega)), q_in (by omega), if_pos (by simp <;> omega), q_cl (by omega)]
    by_cases ei : i = 0
    · subst ei
      rw [if_pos (show nI 0 = 0 from rfl), e_Measure_edits_52, q_add, x_tbs (by omega) (by omega), show nI j + 1 = nI (j + 1) from q_add j 1, ed_0, Nat.zero_add]
    · rw [if_neg (show ¬ nI i = 0 from fun z => ei ((q_eq (b := 0) (by omega) (by omega)).mp z))]
      by_cases ej : j = 0
      · subst ej
        rw [if_pos (show nI 0 = 0 from rfl), e_Measure_edits_52, q_add, x_tbs (by omega) (by omega), show nI 0 + 1 = nI (0 + 1) from q_add 0 1, ed_i0]
        rfl
      · obtain ⟨i', rfl⟩ : ∃ i', i = i' + 1 := ⟨i - 1, by omega⟩
        obtain ⟨j', rfl⟩ : ∃ j', j = j' + 1 := ⟨j - 1, by omega⟩
        have t1 := p4 i' j' (by omega) (by omega)
        have t2 := p4 i' (j' + 1) (by omega) (by omega)
        have t3 := p4 (i' + 1) j' (by omega) (by omega)
        have l1 := ed_le x y i' j'
        have l2 := ed_le x y i' (j' + 1)
        have l3 := ed_le x y (i' + 1) j'
        have eA : ev_do (d + 4) M_Measure_editsAt [.ref 114, .int (nI (i' + 1)), .int (nI (j' + 1))] (ev_mk h K L') = ev_ri (nI (ed x y (i' + 1) (j' + 1))) (ev_mk h K L') := by
          have e36 : ∀ c : Nat, c ≤ 1 → ev_at (d + 3) M_Measure_editsAt 36 [.ref 114, .int (nI (i' + 1)), .int (nI (j' + 1)), .float 0] [.int (nI c), .int (nI (ed x y i' j'))] (ev_mk h K L') = ev_ri (nI (min (ed x y i' j' + c) (min (ed x y i' (j' + 1)) (ed x y (i' + 1) j') + 1))) (ev_mk h K L') := by
            intro c hc
            rw [e_Measure_editsAt_36, show nI (i' + 1) - 1 = nI i' from q_sub (a := i' + 1) (b := 1) (by omega), q_in (by omega), if_pos (by simp <;> omega), q_cl (by omega), x_tab (by omega) (by omega), t2, q_in (by omega), if_pos (by simp <;> omega), q_cl (by omega), show nI (j' + 1) - 1 = nI j' from q_sub (a := j' + 1) (b := 1) (by omega), x_tab (by omega) (by omega), t3, z_min (by omega) (by omega), q_add, show nI (min (ed x y (i' + 1) j') (ed x y i' (j' + 1))) + 1 = nI (min (ed x y (i' + 1) j') (ed x y i' (j' + 1)) + 1) from q_add _ 1, z_min (by omega) (by omega), Nat.min_comm (ed x y (i' + 1) j'), Nat.min_comm _ (ed x y i' j' + c)]
          rw [e_Measure_editsAt_0, show nI (i' + 1) - 1 = nI i' from q_sub (a := i' + 1) (b := 1) (by omega), show nI (j' + 1) - 1 = nI j' from q_sub (a := j' + 1) (b := 1) (by omega), q_in (n := 9) (by omega), if_pos (by simp <;> omega), q_cl (by omega), x_tab (by omega) (by omega), t1, q_in (n := 8) (by omega), if_pos (by simp <;> omega), q_in (n := 8) (by omega), if_pos (by simp <;> omega), q_cl (by omega), p3.2.2.1 i' (by omega), p3.2.2.2 j' (by omega), ed_ss]
          have hx := gx i' (by omega)
          have hy := gy j' (by omega)
          by_cases e : x i' = y j'
          · rw [if_pos (by rw [e]), if_pos e]; exact e36 0 (by omega)
          · rw [if_neg (fun z => e ((lt_eq hx hy).mp z)), if_neg e]; exact e36 1 (by omega)
        rw [if_neg (show ¬ nI (j' + 1) = 0 from fun z => ej ((q_eq (b := 0) (by omega) (by omega)).mp z)), eA, k_I, k_1, k_2, k_3, x_tbs (by omega) (by omega), show nI (j' + 1) + 1 = nI (j' + 1 + 1) from q_add _ 1]
  · intro i K hi' ⟨p1, p4⟩
    refine ⟨?_, p1, tbl_row p4⟩
    rw [e_Measure_edits_24, p1.2.2.2.1, if_pos ((q_lt (by omega) (by omega)).mpr (by omega)), show nI i + 1 = nI (i + 1) from q_add i 1]
  · intro K ⟨⟨p1, p2, p3⟩, p4⟩
    refine ⟨K, ?_, p1, p2⟩
    rw [e_Measure_edits_12, p3.1, if_pos ((q_lt (by omega) (by omega)).mpr (by omega)), q_in (by omega), if_pos (by simp <;> omega), q_cl (by omega), p3.2.1, x_tab (by omega) (by omega), p4 n m (by omega) (by omega)]
theorem xCm (d : Nat) (hw : wfA A) (hi : invC I L A) (f : frC I J) {a b : Nat} (ha : a < (aBk A).1) (hb : b < (aBk A).1) (st : Nat) {L' : Nat → Nat → Int64} : ∃ K, ev_do (d + 5) M_Measure_inCommon [.ref 114, .ref 17, .int (nI a), .int (nI b), .int (nI st)] (ev_mk h J L') = ev_ri (nI (cmA A a b st)) (ev_mk h K L') ∧ frC I K ∧ exc [114, 115, 116, 118, 119, 120, 121, 122, 123, 124, 125, 126] J K := by
  obtain ⟨K0, e0, f0, x0, y0⟩ := c_layBoth (h := h) (L' := L') d hw hi f ha hb st
  have hn := lk_len hw ha st
  have hm := lk_len hw hb st
  have gx : ∀ j, j < (lk A a st).length → (fun j => (lk A a st).getD j 0) j < 8 := fun j hj => getD_lt hw ha st hj
  have gy : ∀ j, j < (lk A b st).length → (fun j => (lk A b st).getD j 0) j < 8 := fun j hj => getD_lt hw hb st hj
  unfold cmA
  generalize (fun j => (lk A a st).getD j 0) = x at *
  generalize (fun j => (lk A b st).getD j 0) = y at *
  generalize (lk A a st).length = n at *
  generalize (lk A b st).length = m at *
  rw [e_Measure_inCommon_0, e0, k_V, k_1, k_2, k_3]
  have x0' := x0.mono (ks' := [114, 115, 116, 118, 119, 120, 121, 122, 123, 124, 125, 126]) (by simp)
  refine lpG (F := fun i K => ev_at (d + 4) M_Measure_inCommon 12 [.ref 114, .float 0, .float 0, .float 0, .float 0, .int (nI i), .float 0] [] (ev_mk h K L')) (G := fun i j K => ev_at (d + 4) M_Measure_inCommon 24 [.ref 114, .float 0, .float 0, .float 0, .float 0, .int (nI i), .int (nI j)] [] (ev_mk h K L')) (fun i j K => (frC I K ∧ exc [114, 115, 116, 118, 119, 120, 121, 122, 123, 124, 125, 126] J K ∧ lyd K x y n m) ∧ tbl K (cm x y) m i j) (fun o => ∃ K, o = ev_ri (nI (cm x y n m)) (ev_mk h K L') ∧ frC I K ∧ exc [114, 115, 116, 118, 119, 120, 121, 122, 123, 124, 125, 126] J K) n m ?_ ?_ ?_ ?_ K0 ⟨⟨f0, x0', y0⟩, fun a b _ z => by omega⟩
  · intro i K hi' ⟨⟨p1, p2, p3⟩, p4⟩
    rw [e_Measure_inCommon_12, p3.1, if_neg (fun z => absurd ((q_lt (by omega) (by omega)).mp z) (by omega))]
    rfl
  · intro i j K hi' hj ⟨⟨p1, p2, p3⟩, p4⟩
    refine ⟨ev_up K (118 + i) j (nI (cm x y i j)), ?_, ⟨p1.up (by unfold scC; omega) (by omega) (by omega), p2.up (tx (by omega)), p3.tab⟩, tbl_up p4⟩
    rw [e_Measure_inCommon_24, p3.2.1, if_neg (fun z => absurd ((q_lt (by omega) (by omega)).mp z) (by omega)), q_in (by omega), if_pos (by simp <;> omega), q_cl (by omega)]
    by_cases ei : i = 0
    · subst ei
      rw [if_pos (show nI 0 = 0 from rfl), x_tbs (by omega) (by omega), show nI j + 1 = nI (j + 1) from q_add j 1]
      rfl
    · rw [if_neg (show ¬ nI i = 0 from fun z => ei ((q_eq (b := 0) (by omega) (by omega)).mp z))]
      by_cases ej : j = 0
      · subst ej
        rw [if_pos (show nI 0 = 0 from rfl), x_tbs (by omega) (by omega), show nI 0 + 1 = nI (0 + 1) from q_add 0 1, cm_i0]
        rfl
      · obtain ⟨i', rfl⟩ : ∃ i', i = i' + 1 := ⟨i - 1, by omega⟩
        obtain ⟨j', rfl⟩ : ∃ j', j = j' + 1 := ⟨j - 1, by omega⟩
        have t1 := p4 i' j' (by omega) (by omega)
        have t2 := p4 i' (j' + 1) (by omega) (by omega)
        have t3 := p4 (i' + 1) j' (by omega) (by omega)
        have l2 := cm_le x y i' (j' + 1)
        have l3 := cm_le x y (i' + 1) j'
        have eA : ev_do (d + 4) M_Measure_inCommonAt [.ref 114, .int (nI (i' + 1)), .int (nI (j' + 1))] (ev_mk h K L') = ev_ri (nI (cm x y (i' + 1) (j' + 1))) (ev_mk h K L') := by
          have hx := gx i' (by omega)
          have hy := gy j' (by omega)
          rw [e_Measure_inCommonAt_0, show nI (i' + 1) - 1 = nI i' from q_sub (a := i' + 1) (b := 1) (by omega), show nI (j' + 1) - 1 = nI j' from q_sub (a := j' + 1) (b := 1) (by omega), show ev_in (nI i') 8 = true from z_in (by omega) (by omega), show ev_in (nI j') 8 = true from z_in (by omega) (by omega), show ev_in (nI i') 9 = true from z_in (by omega) (by omega), show ev_in (nI (i' + 1)) 9 = true from z_in (by omega) (by omega)]
          simp only [↓reduceIte]
          rw [q_cl (a := i') (by omega), q_cl (a := j') (by omega), q_cl (a := i' + 1) (by omega), p3.2.2.1 i' (by omega), p3.2.2.2 j' (by omega), cm_ss]
          by_cases e : x i' = y j'
          · rw [if_pos (by rw [e]), if_pos e, x_tab (by omega) (by omega), t1, show nI (cm x y i' j') + 1 = nI (cm x y i' j' + 1) from q_add _ 1]
          · rw [if_neg (fun z => e ((lt_eq hx hy).mp z)), if_neg e, x_tab (by omega) (by omega), t2, x_tab (by omega) (by omega), t3, z_max (by omega) (by omega)]
        rw [if_neg (show ¬ nI (j' + 1) = 0 from fun z => ej ((q_eq (b := 0) (by omega) (by omega)).mp z)), eA, k_I, k_1, k_2, k_3, x_tbs (by omega) (by omega), show nI (j' + 1) + 1 = nI (j' + 1 + 1) from q_add _ 1]
  · intro i K hi' ⟨p1, p4⟩
    refine ⟨?_, p1, tbl_row p4⟩
    rw [e_Measure_inCommon_24, p1.2.2.2.1, if_pos ((q_lt (by omega) (by omega)).mpr (by omega)), show nI i + 1 = nI (i + 1) from q_add i 1]
  · intro K ⟨⟨p1, p2, p3⟩, p4⟩
    refine ⟨K, ?_, p1, p2⟩
    rw [e_Measure_inCommon_12, p3.1, if_pos ((q_lt (by omega) (by omega)).mpr (by omega)), q_in (by omega), if_pos (by simp <;> omega), q_cl (by omega), p3.2.1, x_tab (by omega) (by omega), p4 n m (by omega) (by omega)]
/-- the reference's grid -/
def grd9 (K : Nat → Nat → Int32) (g : Nat → Nat → Nat) (m i j : Nat) : Prop := ∀ a b, b ≤ m → (a < i ∨ (a = i ∧ b < j)) → K 159 (9 * a + b) = nI (g a b)
theorem grd_up {K : Nat → Nat → Int32} {g : Nat → Nat → Nat} {m i j : Nat} (hm : m ≤ 8) (hj : j ≤ m) (ht : grd9 K g m i j) : grd9 (ev_up K 159 (9 * i + j) (nI (g i j))) g m i (j + 1) := by
  intro a b hb hab
  by_cases e : a = i ∧ b = j
  · rw [e.1, e.2, u_at]
  · rw [u_j (by omega)]; exact ht a b hb (by omega)
theorem grd_row {K : Nat → Nat → Int32} {g : Nat → Nat → Nat} {m i : Nat} (ht : grd9 K g m i (m + 1)) : grd9 K g m (i + 1) 0 := fun a b hb hab => ht a b hb (by omega)
theorem c_sq (d : Nat) {i j : Nat} : ev_do (d + 1) M_Mo_square [.int (nI i), .int (nI j)] (ev_mk h J L) = ev_ri (nI (9 * i + j)) (ev_mk h J L) := by
  rw [e_Mo_square_0, show (9 : Int32) = nI 9 from rfl, q_mul, q_add]
/-- what the reference laid -/
def lydM (K : Nat → Nat → Int32) (x y : Nat → Nat) (n m : Nat) : Prop := (∀ j, j < n → K 153 j = nI (x j)) ∧ ∀ j, j < m → K 154 j = nI (y j)
theorem c_layM (d : Nat) (hw : wfA A) (hi : invM I L A) (f : frM I J) {a b : Nat} (ha : a < (aBk A).1) (hb : b < (aBk A).1) (st : Nat) {L' : Nat → Nat → Int64} : ∃ K1 K, ev_do (d + 2) M_Mo_lays [.ref 139, .ref 153, .int (nI a), .int (nI (uO (aS A) a)), .int (nI st)] (ev_mk h J L') = ev_ri (nI (lk A a st).length) (ev_mk h K1 L') ∧ ev_do (d + 2) M_Mo_lays [.ref 139, .ref 154, .int (nI b), .int (nI (uO (aS A) b)), .int (nI st)] (ev_mk h K1 L') = ev_ri (nI (lk A b st).length) (ev_mk h K L') ∧ frM I K1 ∧ frM I K ∧ exc [153, 154] J K ∧ lydM K (fun j => (lk A a st).getD j 0) (fun j => (lk A b st).getD j 0) (lk A a st).length (lk A b st).length := by
  have hW := hw.2.2.1.1
  obtain ⟨K1, e1, x1, c1⟩ := c_Mo_lays (h := h) (L := L') d (hi.bk f) (k := 153) (w := a) (u := uO (aS A) a) (s := st) (Or.inl rfl) (by omega)
  have f1 : frM I K1 := f.x x1 (by simp [scM])
  obtain ⟨K2, e2, x2, c2⟩ := c_Mo_lays (h := h) (L := L') d (hi.bk f1) (k := 154) (w := b) (u := uO (aS A) b) (s := st) (Or.inr rfl) (by omega)
  refine ⟨K1, K2, e1, e2, f1, f1.x x2 (by simp [scM]), (x1.mono (by simp)).tr (x2.mono (by simp)), fun j hj => ?_, c2⟩
  rw [x2 153 (by simp)]; exact c1 j hj
end ME

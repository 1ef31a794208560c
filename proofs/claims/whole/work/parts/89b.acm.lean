/-! Acts, read by the reference. -/
section AM
variable {h : Bool × Nat × Nat} {I J K : Nat → Nat → Int32} {L : Nat → Nat → Int64} {tx : Nat → Nat} {e p : Nat}
theorem ix1 : ∀ c, c < 256 → ixO str1 c = if lnC c = 0 then none else some (kdC c) := by decide +kernel
theorem ix2 : ∀ c, c < 256 → ixO str2 c = if isLt c = true then some (c - 97) else none := by decide +kernel
theorem c_number1 (d : Nat) (hr : rdM K tx e p) : ev_do (d + 3) M_Mo_number [.ref 139, .int 1] (ev_mk h K L) = if (decide (p < e) && isDg (tx p)) = true then ev_ri (nI (tx p - 48)) (ev_mk h (advK K (p + 1)) L) else ev_ri (-1) (ev_mk h K L) := by
  rw [e_Mo_number_0, c_isDigit d hr, k_I, k_1, k_2, k_3]
  cases hb : decide (p < e) && isDg (tx p) with
  | false => rw [if_pos (show fl false = 0 from rfl), if_neg (by decide)]
  | true =>
    have hb' := hb
    unfold isDg at hb'
    rw [Bool.and_eq_true, Bool.and_eq_true, decide_eq_true_iff, decide_eq_true_iff, decide_eq_true_iff] at hb'
    rw [if_neg (show ¬ fl true = 0 by decide), if_pos rfl, e_Mo_number_13, if_pos (by decide), c_isDigit d hr, k_I, k_1, k_2, k_3, hb, if_neg (show ¬ fl true = 0 by decide)]
    obtain ⟨h1, h2, h3, h4, h5, h6⟩ := hr
    rw [h1, q_in (by omega), if_pos (by simp <;> omega), q_cl (by omega), h6 p hb'.1, e_Mo_number_13, if_neg (by decide), show nI p + 1 = nI (p + 1) from q_add p 1, show (10 : Int32) * 0 + nI (tx p) - 48 = nI (tx p - 48) by rw [show (10 : Int32) * 0 = nI 0 by decide, q_add, Nat.zero_add]; exact q_sub (b := 48) (by omega)]; rfl
theorem c_digitIn (d : Nat) {m : Nat} (hm : m < 10) (hr : rdM K tx e p) : ev_do (d + 2) M_Mo_digitIn [.ref 139, .int (nI m), .int 9] (ev_mk h K L) = if (decide (p < e) && (decide (48 + m ≤ tx p) && decide (tx p ≤ 57))) = true then ev_ri (nI (tx p - 48)) (ev_mk h (advK K (p + 1)) L) else ev_ri (-1) (ev_mk h K L) := by
  obtain ⟨h1, h2, h3, h4, h5, h6⟩ := hr
  rw [e_Mo_digitIn_0, h1, h2]
  by_cases hp : p < e
  · have hc := h5 p hp
    have hi := c_Mo_in d (nI (tx p) - 48) (nI m) 9 h K L
    rw [if_pos ((q_lt (by omega) (by omega)).mpr hp), q_in (by omega), if_pos (by simp <;> omega), q_cl (by omega), h6 p hp, hi, k_I, k_1, k_2, k_3, decide_eq_true hp, Bool.true_and, h1, show nI p + 1 - 1 = nI p from Int32.add_sub_cancel _ _, q_in (by omega), q_cl (by omega), h6 p hp, show nI p + 1 = nI (p + 1) from q_add p 1]
    have ti : (nI (tx p) - 48).toInt = (tx p : Int) - 48 := by
      rw [Int32.toInt_sub, q_ti (by omega), show (48 : Int32).toInt = 48 by decide]
      exact Int.bmod_eq_of_le (by omega) (by omega)
    have z1 : nI (tx p) - 48 < nI m ↔ tx p < 48 + m := by rw [Int32.lt_iff_toInt_lt, ti, q_ti (by omega)]; omega
    have z2 : 9 < nI (tx p) - 48 ↔ 57 < tx p := by rw [Int32.lt_iff_toInt_lt, ti, show (9 : Int32).toInt = 9 by decide]; omega
    by_cases a1 : tx p < 48 + m
    · rw [if_neg (c := ¬ nI (tx p) - 48 < nI m ∧ ¬ 9 < nI (tx p) - 48) (fun z => z.1 (z1.mpr a1)), if_pos rfl, decide_eq_false (show ¬ 48 + m ≤ tx p by omega), Bool.false_and, if_neg (by decide)]
    · by_cases a2 : 57 < tx p
      · rw [if_neg (c := ¬ nI (tx p) - 48 < nI m ∧ ¬ 9 < nI (tx p) - 48) (fun z => z.2 (z2.mpr a2)), if_pos rfl, decide_eq_false (show ¬ tx p ≤ 57 by omega), Bool.and_false, if_neg (by decide)]
      · rw [if_pos (c := ¬ nI (tx p) - 48 < nI m ∧ ¬ 9 < nI (tx p) - 48) ⟨fun z => a1 (z1.mp z), fun z => a2 (z2.mp z)⟩, if_neg (show ¬ (1 : Int32) = 0 by decide), decide_eq_true (show 48 + m ≤ tx p by omega), decide_eq_true (show tx p ≤ 57 by omega), if_pos (by simp <;> omega), if_pos (by decide), show nI (tx p) - 48 = nI (tx p - 48) from q_sub (b := 48) (by omega)]; rfl
  · rw [if_neg (fun z => hp ((q_lt (by omega) (by omega)).mp z)), decide_eq_false hp, Bool.false_and, if_neg (by decide)]
/-- an act as it is kept -/
def acM (K : Nat → Nat → Int32) (tx : Nat → Nat) (i p : Nat) : Prop := K 156 i = nI (kdC (tx p)) ∧ K 157 i = nI (tx (p + 1) - if tx p = 110 ∨ tx p = 120 then 48 else 97) ∧ (tx p ≠ 110 → K 158 i = nI (tx (p + 2) - 48))
def exA (i : Nat) (K K' : Nat → Nat → Int32) : Prop := exc [139, 156, 157, 158] K K' ∧ (∀ j, j ≠ 11 → j ≠ 31 → K' 139 j = K 139 j) ∧ ∀ j, j ≠ i → K' 156 j = K 156 j ∧ K' 157 j = K 157 j ∧ K' 158 j = K 158 j
theorem exA.up1 {K K' : Nat → Nat → Int32} {i c j : Nat} {v : Int32} (hx : exA i K K') (hc : (c = 139 ∧ (j = 11 ∨ j = 31)) ∨ ((c = 156 ∨ c = 157 ∨ c = 158) ∧ j = i)) : exA i K (ev_up K' c j v) := by
  refine ⟨hx.1.up (by simp <;> omega), fun a h1 h2 => ?_, fun a ha => ?_⟩
  · rw [u_no (by omega)]; exact hx.2.1 a h1 h2
  · rw [u_no (by omega), u_no (by omega), u_no (by omega)]; exact hx.2.2 a ha
theorem exA.rf {K : Nat → Nat → Int32} {i : Nat} : exA i K K := ⟨exc.rf, fun _ _ _ => rfl, fun _ _ => ⟨rfl, rfl, rfl⟩⟩
theorem rdM.w {K : Nat → Nat → Int32} {c j : Nat} {v : Int32} (hr : rdM K tx e p) (h1 : ¬ (c = 139 ∧ (j = 11 ∨ j = 12))) (h2 : c ≠ 145) : rdM (ev_up K c j v) tx e p := hr.ex (u_no (by omega)) (u_no (by omega)) (u_cf (Ne.symm h2))
theorem c_readsAct (d : Nat) (hr : rdM K tx e p) (hp : p < e) {i : Nat} (hi : i < 60) (h31 : K 139 31 = nI i) : match flt tx e p with
    | some f => ∃ K', ev_do (d + 6) M_Mo_readsAct [.ref 139] (ev_mk h K L) = ev_ri 0 (ev_mk h K' L) ∧ rdM K' tx e f ∧ exA i K K'
    | none => ∃ K', ev_do (d + 6) M_Mo_readsAct [.ref 139] (ev_mk h K L) = ev_ri 1 (ev_mk h K' L) ∧ rdM K' tx e (p + lnC (tx p)) ∧ exA i K K' ∧ K' 139 31 = nI (i + 1) ∧ acM K' tx i p := by
  have hc := hr.2.2.2.2.1 p hp
  have hl := lnC_c (tx p)
  have h0 := c_tk1 (h := h) (L := L) d hr
  rw [if_pos hp, ix1 _ hc] at h0
  rw [e_Mo_readsAct_0, h0, h31]
  have hin : ev_in (nI i) 60 = true := by rw [q_in (by omega)]; simpa using hi
  unfold flt
  by_cases z0 : lnC (tx p) = 0
  · rw [if_pos z0, if_pos z0]
    refine ⟨ev_up (ev_up K 156 i (-1)) 139 31 (K 139 31 + 1), ?_, (hr.w (by omega) (by omega)).w (by omega) (by omega), (exA.rf.up1 (by omega)).up1 (by omega)⟩
    show ev_cI (ev_ri (-1) (ev_mk h K L)) _ = _
    rw [k_I, k_1, k_2, k_3, hin, if_pos rfl, if_pos rfl, q_cl (by omega), u_at, if_pos (by decide)]
  · rw [if_neg z0, if_neg z0]
    have hk : kdC (tx p) < 5 := by unfold kdC; (repeat' split) <;> omega
    show match (if (decide (p + 1 < e) && ok1 (tx p) (tx (p + 1))) = false then some (p + 1) else if tx p = 110 then none else if (decide (p + 2 < e) && ok2 (tx p) (tx (p + 2))) = false then some (p + 2) else none) with
      | some f => ∃ K', ev_cI (ev_ri (nI (kdC (tx p))) (ev_mk h (advK K (p + 1)) L)) _ = ev_ri 0 (ev_mk h K' L) ∧ rdM K' tx e f ∧ exA i K K'
      | none => ∃ K', ev_cI (ev_ri (nI (kdC (tx p))) (ev_mk h (advK K (p + 1)) L)) _ = ev_ri 1 (ev_mk h K' L) ∧ rdM K' tx e (p + lnC (tx p)) ∧ exA i K K' ∧ K' 139 31 = nI (i + 1) ∧ acM K' tx i p
    rw [k_I, k_1, k_2, k_3, hin, if_pos rfl, if_pos rfl, if_pos rfl, q_cl (by omega), u_at, if_neg (q_nn (by omega)), show advK K (p + 1) 139 31 = nI i from (u_j (by omega)).trans h31, show nI i + 1 = nI (i + 1) from q_add i 1]
    have x1 : exA i K (ev_up (ev_up (advK K (p + 1)) 156 i (nI (kdC (tx p)))) 139 31 (nI (i + 1))) := ((exA.rf.up1 (by omega)).up1 (by omega)).up1 (by omega)
    have r1 : rdM (ev_up (ev_up (advK K (p + 1)) 156 i (nI (kdC (tx p)))) 139 31 (nI (i + 1))) tx e (p + 1) := ((hr.adv (by omega)).w (by omega) (by omega)).w (by omega) (by omega)
    have k1 : ev_up (ev_up (advK K (p + 1)) 156 i (nI (kdC (tx p)))) 139 31 (nI (i + 1)) 156 i = nI (kdC (tx p)) := by rw [u_c (by omega), u_at]
    have g1 : ev_up (ev_up (advK K (p + 1)) 156 i (nI (kdC (tx p)))) 139 31 (nI (i + 1)) 139 31 = nI (i + 1) := u_at _ _ _ _
    generalize ev_up (ev_up (advK K (p + 1)) 156 i (nI (kdC (tx p)))) 139 31 (nI (i + 1)) = K1 at *
    -- the second sign
    have h69 : ∀ (K2 : Nat → Nat → Int32) (a1 : Nat), rdM K2 tx e (p + 2) → exA i K K2 → K2 156 i = nI (kdC (tx p)) → K2 139 31 = nI (i + 1) → a1 < 256 → p + 1 < e → ok1 (tx p) (tx (p + 1)) = true → a1 = (tx (p + 1) - if tx p = 110 ∨ tx p = 120 then 48 else 97) → match (if tx p = 110 then none else if (decide (p + 2 < e) && ok2 (tx p) (tx (p + 2))) = false then some (p + 2) else none) with
      | some f => ∃ K', ev_at (d + 5) M_Mo_readsAct 69 [.ref 139, .int (nI i)] [.int (nI a1), .int (nI i), .ref 157] (ev_mk h K2 L) = ev_ri 0 (ev_mk h K' L) ∧ rdM K' tx e f ∧ exA i K K'
      | none => ∃ K', ev_at (d + 5) M_Mo_readsAct 69 [.ref 139, .int (nI i)] [.int (nI a1), .int (nI i), .ref 157] (ev_mk h K2 L) = ev_ri 1 (ev_mk h K' L) ∧ rdM K' tx e (p + lnC (tx p)) ∧ exA i K K' ∧ K' 139 31 = nI (i + 1) ∧ acM K' tx i p := by
      intro K2 a1 r2 x2 k2 g2 ha1 hp1 hok ea
      have hc1 := hr.2.2.2.2.1 (p + 1) hp1
      have r3 : rdM (ev_up K2 157 i (nI a1)) tx e (p + 2) := r2.w (by omega) (by omega)
      have x3 : exA i K (ev_up K2 157 i (nI a1)) := x2.up1 (by omega)
      have k3 : ev_up K2 157 i (nI a1) 156 i = nI (kdC (tx p)) := (u_c (by omega)).trans k2
      have j3 : ev_up K2 157 i (nI a1) 157 i = nI a1 := u_at _ _ _ _
      have g3 : ev_up K2 157 i (nI a1) 139 31 = nI (i + 1) := (u_c (by omega)).trans g2
      rw [e_Mo_readsAct_69, hin, if_pos rfl, if_pos rfl, q_cl (by omega), j3, if_neg (q_nn (by omega)), if_pos rfl, if_pos rfl, k2]
      generalize ev_up K2 157 i (nI a1) = K3 at *
      by_cases z2 : tx p = 110
      · rw [if_pos z2, if_pos (show nI (kdC (tx p)) = 0 by rw [z2]; rfl)]
        refine ⟨K3, ?_, by rw [show lnC (tx p) = 2 by omega]; exact r3, x3, g3, k3, by rw [j3, ea], fun z => absurd z2 z⟩
        rw [e_Mo_readsAct_88, hin, if_pos rfl, q_cl (by omega), j3, if_neg (q_nn (by omega))]
      · have hk0 : kdC (tx p) ≠ 0 := by unfold kdC; rw [if_neg z2]; (repeat' split) <;> omega
        rw [if_neg z2, if_neg (show ¬ nI (kdC (tx p)) = 0 from fun z => hk0 ((q_eq (b := 0) (by omega) (by omega)).mp z))]
        have h124 : ∀ m, m < 10 → (m = if tx p = 114 ∨ tx p = 113 then 1 else 0) → match (if (decide (p + 2 < e) && ok2 (tx p) (tx (p + 2))) = false then some (p + 2) else none) with
          | some f => ∃ K', ev_at (d + 5) M_Mo_readsAct 124 [.ref 139, .int (nI i)] [.int (nI m), .ref 139, .int (nI i), .ref 158] (ev_mk h K3 L) = ev_ri 0 (ev_mk h K' L) ∧ rdM K' tx e f ∧ exA i K K'
          | none => ∃ K', ev_at (d + 5) M_Mo_readsAct 124 [.ref 139, .int (nI i)] [.int (nI m), .ref 139, .int (nI i), .ref 158] (ev_mk h K3 L) = ev_ri 1 (ev_mk h K' L) ∧ rdM K' tx e (p + lnC (tx p)) ∧ exA i K K' ∧ K' 139 31 = nI (i + 1) ∧ acM K' tx i p := by
          intro m hm em
          have eo : (decide (48 + m ≤ tx (p + 2)) && decide (tx (p + 2) ≤ 57)) = ok2 (tx p) (tx (p + 2)) := by
            unfold ok2
            rw [em]
            by_cases z : tx p = 114 ∨ tx p = 113
            · rw [if_pos z, if_pos z]
            · rw [if_neg z, if_neg z]
          rw [e_Mo_readsAct_124, c_digitIn (d + 3) hm r3, eo]
          cases hb : decide (p + 2 < e) && ok2 (tx p) (tx (p + 2)) with
          | false =>
            rw [if_pos rfl, if_neg (by decide), k_I, k_1, k_2, k_3, hin, if_pos rfl, if_pos rfl, q_cl (by omega), u_at, if_pos (by decide)]
            exact ⟨_, rfl, r3.w (by omega) (by omega), x3.up1 (by omega)⟩
          | true =>
            rw [Bool.and_eq_true, decide_eq_true_iff] at hb
            have hc2 := hr.2.2.2.2.1 (p + 2) hb.1
            rw [if_neg (show ¬ true = false by decide), if_pos rfl, k_I, k_1, k_2, k_3, hin, if_pos rfl, if_pos rfl, q_cl (by omega), u_at, if_neg (q_nn (by omega))]
            refine ⟨_, rfl, ?_, (x3.up1 (c := 139) (j := 11) (by omega)).up1 (by omega), ?_, ?_, ?_, fun _ => u_at _ _ _ _⟩
            · rw [show lnC (tx p) = 3 by omega]; exact (r3.adv (q := p + 3) (by omega)).w (by omega) (by omega)
            · exact (u_c (by omega)).trans ((u_j (by omega)).trans g3)
            · exact (u_c (by omega)).trans ((u_c (by omega)).trans k3)
            · exact (u_c (by omega)).trans ((u_c (by omega)).trans (by rw [j3, ea]))
        by_cases z3 : kdC (tx p) < 3
        · rw [if_pos (show nI (kdC (tx p)) < 3 from (q_lt (b := 3) (by omega) (by omega)).mpr z3)]
          refine h124 0 (by omega) ?_
          rw [if_neg]
          intro z
          unfold kdC at z3
          rcases z with z | z <;> rw [z] at z3 <;> revert z3 <;> decide
        · rw [if_neg (show ¬ nI (kdC (tx p)) < 3 from fun z => z3 ((q_lt (b := 3) (by omega) (by omega)).mp z))]
          refine h124 1 (by omega) ?_
          rw [if_pos]
          unfold lnC at z0 hl
          unfold kdC at z3
          rw [if_neg z2] at z3 z0
          by_cases y1 : tx p = 120
          · rw [if_pos y1] at z3; omega
          · rw [if_neg y1] at z3
            by_cases y2 : tx p = 111
            · rw [if_pos y2] at z3; omega
            · by_cases y3 : tx p = 111 ∨ tx p = 113 ∨ tx p = 114 ∨ tx p = 120
              · omega
              · rw [if_neg y3] at z0; omega
    by_cases z1 : tx p = 110 ∨ tx p = 120
    · have hk2 : kdC (tx p) < 2 := by unfold kdC; rcases z1 with z | z <;> rw [z] <;> decide
      have eo : ok1 (tx p) (tx (p + 1)) = isDg (tx (p + 1)) := by unfold ok1 ok2 isDg; rw [if_pos z1, if_neg (show ¬ (tx p = 114 ∨ tx p = 113) by omega)]
      rw [if_pos (show nI (kdC (tx p)) < 2 from (q_lt (b := 2) (by omega) (by omega)).mpr hk2), c_number1 (d + 2) r1, eo]
      cases hb : decide (p + 1 < e) && isDg (tx (p + 1)) with
      | false =>
        rw [if_pos rfl, if_neg (by decide), k_I, k_1, k_2, k_3, e_Mo_readsAct_69, hin, if_pos rfl, if_pos rfl, q_cl (by omega), u_at, if_pos (by decide), e_Mo_readsAct_88, hin, if_pos rfl, q_cl (by omega), u_at, if_pos (by decide)]
        exact ⟨_, rfl, r1.w (by omega) (by omega), x1.up1 (by omega)⟩
      | true =>
        rw [Bool.and_eq_true, decide_eq_true_iff] at hb
        have hc1 := hr.2.2.2.2.1 (p + 1) hb.1
        rw [if_neg (show ¬ true = false by decide), if_pos rfl, k_I, k_1, k_2, k_3]
        exact h69 (advK K1 (p + 2)) (tx (p + 1) - 48) (r1.adv (by omega)) (x1.up1 (by omega)) ((u_c (by omega)).trans k1) ((u_j (by omega)).trans g1) (by omega) hb.1 (eo.trans hb.2) (by rw [if_pos z1])
    · have hk2 : ¬ kdC (tx p) < 2 := by unfold kdC; rw [if_neg (fun z => z1 (Or.inl z)), if_neg (fun z => z1 (Or.inr z))]; (repeat' split) <;> omega
      have eo : ok1 (tx p) (tx (p + 1)) = isLt (tx (p + 1)) := by unfold ok1; rw [if_neg z1]
      have h2 := c_tk2 (h := h) (L := L) d r1
      rw [if_neg (show ¬ nI (kdC (tx p)) < 2 from fun z => hk2 ((q_lt (b := 2) (by omega) (by omega)).mp z)), h2, eo]
      by_cases hp1 : p + 1 < e
      · have hc1 := hr.2.2.2.2.1 (p + 1) hp1
        rw [if_pos hp1, ix2 _ hc1, decide_eq_true hp1, Bool.true_and]
        cases hb : isLt (tx (p + 1)) with
        | false =>
          rw [if_pos rfl, if_neg (by decide)]
          refine ⟨ev_up K1 157 i (-1), ?_, r1.w (by omega) (by omega), x1.up1 (by omega)⟩
          show ev_cI (ev_ri (-1) (ev_mk h K1 L)) _ = _
          rw [k_I, k_1, k_2, k_3, e_Mo_readsAct_69, hin, if_pos rfl, if_pos rfl, q_cl (by omega), u_at, if_pos (by decide), e_Mo_readsAct_88, hin, if_pos rfl, q_cl (by omega), u_at, if_pos (by decide)]
        | true =>
          rw [if_neg (show ¬ true = false by decide), if_pos rfl]
          exact h69 (advK K1 (p + 2)) (tx (p + 1) - 97) (r1.adv (by omega)) (x1.up1 (by omega)) ((u_c (by omega)).trans k1) ((u_j (by omega)).trans g1) (by omega) hp1 (eo.trans hb) (by rw [if_neg z1])
      · rw [if_neg hp1, decide_eq_false hp1, Bool.false_and, if_pos rfl]
        refine ⟨ev_up K1 157 i (-1), ?_, r1.w (by omega) (by omega), x1.up1 (by omega)⟩
        show ev_cI (ev_ri (-1) (ev_mk h K1 L)) _ = _
        rw [k_I, k_1, k_2, k_3, e_Mo_readsAct_69, hin, if_pos rfl, if_pos rfl, q_cl (by omega), u_at, if_pos (by decide), e_Mo_readsAct_88, hin, if_pos rfl, q_cl (by omega), u_at, if_pos (by decide)]
end AM

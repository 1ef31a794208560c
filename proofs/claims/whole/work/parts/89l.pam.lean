/-! A rule read by the reference. -/
section PM
variable {h : Bool × Nat × Nat} {K : Nat → Nat → Int32} {L : Nat → Nat → Int64} {tx : Nat → Nat} {e : Nat}
def tkM (K : Nat → Nat → Int32) (ts : List Nat) : Prop := K 139 21 = nI ts.length ∧ ∀ i, i < ts.length → K 150 i = nI (ts.getD i 0)
def fxM (K K' : Nat → Nat → Int32) : Prop := exc [139, 150] K K' ∧ ∀ j, j ≠ 11 → j ≠ 13 → j ≠ 21 → K' 139 j = K 139 j
theorem fxM.rf : fxM K K := ⟨exc.rf, fun _ _ _ _ => rfl⟩
theorem fxM.tr {K' K'' : Nat → Nat → Int32} (h1 : fxM K K') (h2 : fxM K' K'') : fxM K K'' := ⟨h1.1.tr h2.1, fun j a b c => (h2.2 j a b c).trans (h1.2 j a b c)⟩
theorem fxM.up {K' : Nat → Nat → Int32} {c j : Nat} {v : Int32} (h1 : fxM K K') (hc : (c = 139 ∧ (j = 11 ∨ j = 13 ∨ j = 21)) ∨ c = 150) : fxM K (ev_up K' c j v) := ⟨h1.1.up (by simp <;> omega), fun a b c' d' => by rw [u_no (by omega)]; exact h1.2 a b c' d'⟩
theorem tkM.w {ts : List Nat} {c j : Nat} {v : Int32} (ht : tkM K ts) (hc : ¬ (c = 139 ∧ j = 21)) (h2 : c ≠ 150) : tkM (ev_up K c j v) ts := ⟨(u_no (by omega)).trans ht.1, fun i hi => (u_c (Ne.symm h2)).trans (ht.2 i hi)⟩
theorem c_codes (d : Nat) {ts : List Nat} (ht : tkM K ts) (hl : ts.length < 80) (t : Nat) {p : Nat} (hr : rdM K tx e p) : ∃ K', ev_do (d + 1) M_Mo_codes [.ref 139, .int (nI t)] (ev_mk h K L) = ev_rn (ev_mk h K' L) ∧ tkM K' (ts ++ [t]) ∧ fxM K K' ∧ rdM K' tx e p ∧ K' 139 13 = K 139 13 := by
  refine ⟨ev_up (ev_up K 150 ts.length (nI t)) 139 21 (nI (ts.length + 1)), ?_, ⟨?_, fun i hi => ?_⟩, (fxM.rf.up (by omega)).up (by omega), (hr.w (by omega) (by omega)).w (by omega) (by omega), by rw [u_j (by omega), u_c (by omega)]⟩
  · rw [e_Mo_codes_0, ht.1, q_in (by omega), if_pos (by simp <;> omega), q_cl (by omega), show nI ts.length + 1 = nI (ts.length + 1) from q_add _ 1]
  · rw [u_at, List.length_append]; rfl
  · rw [List.length_append] at hi
    have hi' : i < ts.length + 1 := hi
    rw [u_c (by omega)]
    by_cases z : i = ts.length
    · rw [z, u_at]; simp [List.getD]
    · rw [u_j z, ht.2 i (by omega)]; simp [List.getD, List.getElem?_append_left (show i < ts.length by omega)]
theorem vDg_lt {p : Nat} : ∀ n, n ≤ nDg tx e p → vDg tx p n < 10 ^ n
  | 0, _ => by show 0 < 1; decide
  | n + 1, hn => by
    have ih := vDg_lt (p := p) n (by omega)
    have := (nDg_in (tx := tx) (e := e) (p := p) (j := n) (by omega)).2
    unfold isDg at this
    rw [Bool.and_eq_true, decide_eq_true_iff, decide_eq_true_iff] at this
    show 10 * vDg tx p n + (tx (p + n) - 48) < 10 ^ (n + 1)
    rw [Nat.pow_succ]
    omega
theorem vDg_1000 {p : Nat} : vDg tx p (nDg tx e p) < 1000 := Nat.lt_of_lt_of_le (vDg_lt (e := e) _ (Nat.le_refl _)) (Nat.le_trans (Nat.pow_le_pow_right (by decide) (nDg_le tx e p)) (by decide))
theorem c_number3 (d : Nat) {p : Nat} (hr : rdM K tx e p) (hb : (decide (p < e) && isDg (tx p)) = true) : ev_do (d + 3) M_Mo_number [.ref 139, .int 3] (ev_mk h K L) = ev_ri (nI (vDg tx p (nDg tx e p))) (ev_mk h (advK K (p + nDg tx e p)) L) := by
  have h3 := nDg_le tx e p
  have he := nDg_e (tx := tx) hr.2.2.2.1
  have r : ∀ j, p + j ≤ e → rdM (advK K (p + j)) tx e (p + j) := fun j hj => hr.adv hj
  rw [e_Mo_number_0, c_isDigit d hr, k_I, k_1, k_2, k_3, hb, if_neg (show ¬ fl true = 0 by decide)]
  have st : ∀ j, j ≤ nDg tx e p → ev_at (d + 2) M_Mo_number 13 [.ref 139, .int 3, .int 0, .int 0] [] (ev_mk h K L) = ev_at (d + 2) M_Mo_number 13 [.ref 139, .int 3, .int (nI (vDg tx p j)), .int (nI j)] [] (ev_mk h (advK K (p + j)) L) := by
    intro j
    induction j with
    | zero => intro _; rw [show advK K (p + 0) = K from hr.id]; rfl
    | succ j ih =>
      intro hj
      obtain ⟨g1, g2⟩ := nDg_in (tx := tx) (e := e) (p := p) (j := j) (by omega)
      have rj := r j (by omega)
      have hv := vDg_lt (e := e) (tx := tx) (p := p) j (by omega)
      have hv2 : vDg tx p j < 1000 := Nat.lt_of_lt_of_le hv (Nat.le_trans (Nat.pow_le_pow_right (by decide) (by omega : j ≤ 3)) (by decide))
      have g3 := g2
      unfold isDg at g3
      rw [Bool.and_eq_true, decide_eq_true_iff, decide_eq_true_iff] at g3
      rw [ih (by omega), e_Mo_number_13, if_pos (show nI j < 3 from (q_lt (b := 3) (by omega) (by omega)).mpr (by omega)), c_isDigit d rj, k_I, k_1, k_2, k_3, decide_eq_true g1, g2, if_neg (show ¬ fl (true && true) = 0 by decide), rj.1, q_in (by have := hr.2.2.1; omega), if_pos (by have := hr.2.2.1; simp <;> omega), q_cl (by have := hr.2.2.1; omega), rj.2.2.2.2.2 _ g1, show nI j + 1 = nI (j + 1) from q_add j 1, show nI (p + j) + 1 = nI (p + (j + 1)) from q_add (p + j) 1, show (10 : Int32) * nI (vDg tx p j) + nI (tx (p + j)) - 48 = nI (vDg tx p (j + 1)) by
        rw [show (10 : Int32) = nI 10 from rfl, q_mul, q_add]
        exact (q_sub (b := 48) (by omega)).trans (by show nI _ = nI (10 * vDg tx p j + (tx (p + j) - 48)); congr 1; omega)]
      show ev_at (d + 2) M_Mo_number 13 _ [] (ev_mk h (ev_up (ev_up K 139 11 (nI (p + j))) 139 11 (nI (p + (j + 1)))) L) = _
      rw [u_up]; rfl
  rw [st _ (Nat.le_refl _), e_Mo_number_13]
  by_cases z : nDg tx e p < 3
  · have hd : (decide (p + nDg tx e p < e) && isDg (tx (p + nDg tx e p))) = false := by
      by_cases y : p + nDg tx e p < e
      · rw [nDg_out z y, Bool.and_false]
      · rw [decide_eq_false y, Bool.false_and]
    rw [if_pos (show nI (nDg tx e p) < 3 from (q_lt (b := 3) (by omega) (by omega)).mpr z), c_isDigit d (r _ he), k_I, k_1, k_2, k_3, hd, if_pos (show fl false = 0 from rfl)]
  · rw [if_neg (show ¬ nI (nDg tx e p) < 3 from fun y => z ((q_lt (b := 3) (by omega) (by omega)).mp y))]
end PM

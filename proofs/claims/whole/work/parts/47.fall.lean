/-! Pairs that fall together. -/
def ctr (f : Nat → Bool) : Nat → Nat → Nat
  | _, 0 => 0
  | i, m + 1 => (if f i then 1 else 0) + ctr f (i + 1) m
/-- how many pairs a < b < W there are with P, from a on -/
def prs (P : Nat → Nat → Bool) (W : Nat) : Nat → Nat → Nat
  | _, 0 => 0
  | a, m + 1 => ctr (P a) (a + 1) (W - (a + 1)) + prs P W (a + 1) m
section FA
variable {h : Bool × Nat × Nat} {I : Nat → Nat → Int32} {L : Nat → Nat → Int64} {W : Nat}
theorem c_pairsThatFall (d : Nat) (hW : I 5 3 = nI W) (hW8 : W ≤ 8) {P : Nat → Nat → Bool} (hP : ∀ a b, a < W → b < W → (decide (I 110 a = I 110 b) && !decide (I 16 a = I 16 b)) = P a b) : ev_do (d + 2) M_Union_pairsThatFall [.ref 109] (ev_mk h I L) = ev_ri (nI (prs P W 0 W)) (ev_mk h I L) := by
  have inner : ∀ m b a acc : Nat, a < W → b + m = W → ev_at (d + 1) M_Union_pairsThatFall 19 [.ref 109, .int (nI acc), .int (nI a), .int (nI b)] [] (ev_mk h I L) = ev_at (d + 1) M_Union_pairsThatFall 4 [.ref 109, .int (nI (acc + ctr (P a) b m)), .int (nI (a + 1)), .float 0] [] (ev_mk h I L) := by
    intro m
    induction m with
    | zero =>
      intro b a acc ha hb
      rw [e_Union_pairsThatFall_19, hW, if_neg (fun z => absurd ((q_lt (by omega) (by omega)).mp z) (by omega)), show nI a + 1 = nI (a + 1) from q_add a 1]
      rfl
    | succ m ih =>
      intro b a acc ha hb
      have hp := hP a b ha (by omega)
      have eb : nI b + 1 = nI (b + 1) := q_add b 1
      have ea1 : nI acc + 1 = nI (acc + 1) := q_add acc 1
      have ea0 : nI acc + 0 = nI acc := q_add acc 0
      have tw : ev_do (d + 1) M_Book_areTwins [.ref 5, .int (nI a), .int (nI b)] (ev_mk h I L) = if I 16 a = I 16 b then ev_ri 1 (ev_mk h I L) else ev_ri 0 (ev_mk h I L) := by
        rw [e_Book_areTwins_0, q_in (a := a) (by omega), q_in (a := b) (by omega), if_pos (c := decide (a < 8) = true) (by simp; omega), if_pos (c := decide (b < 8) = true) (by simp; omega), q_cl (by omega), q_cl (by omega)]
      rw [e_Union_pairsThatFall_19, hW, if_pos ((q_lt (by omega) (by omega)).mpr (by omega)), q_in (a := a) (by omega), q_in (a := b) (by omega), if_pos (c := decide (a < 8) = true) (by simp; omega), if_pos (c := decide (b < 8) = true) (by simp; omega), q_cl (by omega), q_cl (by omega), tw, eb, ea1, ea0, ctr, ← hp]
      by_cases p1 : I 110 a = I 110 b
      · rw [if_pos p1, decide_eq_true p1]
        by_cases p2 : I 16 a = I 16 b
        · rw [if_pos p2, k_I, k_1, k_2, k_3, if_neg (by decide), decide_eq_true p2, ih (b + 1) a acc ha (by omega)]
          simp
        · rw [if_neg p2, k_I, k_1, k_2, k_3, if_pos rfl, decide_eq_false p2, ih (b + 1) a (acc + 1) ha (by omega)]
          simp [Nat.add_assoc]
      · rw [if_neg p1, decide_eq_false p1, ih (b + 1) a acc ha (by omega)]
        simp
  have outer : ∀ m a acc : Nat, a + m = W → ev_at (d + 1) M_Union_pairsThatFall 4 [.ref 109, .int (nI acc), .int (nI a), .float 0] [] (ev_mk h I L) = ev_ri (nI (acc + prs P W a m)) (ev_mk h I L) := by
    intro m
    induction m with
    | zero =>
      intro a acc ha
      rw [e_Union_pairsThatFall_4, hW, if_neg (fun z => absurd ((q_lt (by omega) (by omega)).mp z) (by omega))]
      rfl
    | succ m ih =>
      intro a acc ha
      rw [e_Union_pairsThatFall_4, hW, if_pos ((q_lt (by omega) (by omega)).mpr (by omega)), show nI a + 1 = nI (a + 1) from q_add a 1, inner (W - (a + 1)) (a + 1) a acc (by omega) (by omega), ih (a + 1) _ (by omega), prs, Nat.add_assoc]
  rw [e_Union_pairsThatFall_0]
  have := outer W 0 0 (by omega)
  rw [Nat.zero_add] at this
  exact this
end FA

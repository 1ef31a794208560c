/-! Which words, letters, signs there are. -/
section HS
variable {h : Bool × Nat × Nat} {I : Nat → Nat → Int32} {L : Nat → Nat → Int64} {W : Nat} {len : Nat → Nat} {lt : Nat → Nat → Nat}
/-- x is a number below n -/
def blw (x : Int32) (n : Nat) : Bool := decide (¬ x < 0) && decide (x < nI n)
theorem blw_iff {x : Int32} {n : Nat} (hn : n < 2147483648) : blw x n = true ↔ ∃ a, a < n ∧ x = nI a := by
  unfold blw
  rw [Bool.and_eq_true, decide_eq_true_eq, decide_eq_true_eq]
  constructor
  · intro ⟨h1, h2⟩
    obtain ⟨a, ha, rfl⟩ := q_ge h1
    exact ⟨a, (q_lt ha hn).mp h2, rfl⟩
  · rintro ⟨a, ha, rfl⟩
    exact ⟨q_nn (by omega), (q_lt (by omega) hn).mpr ha⟩
theorem c_Book_has (d : Nat) {x : Int32} (hW : I 5 3 = nI W) : ev_do (d + 1) M_Book_has [.ref 5, .int x] (ev_mk h I L) = ev_ri (fl (blw x W)) (ev_mk h I L) := by
  rw [e_Book_has_0, hW]
  unfold blw
  by_cases h1 : x < 0
  · simp [h1, fl]
  · by_cases h2 : x < nI W
    · rw [if_neg h1, if_pos h2, decide_eq_true h1, decide_eq_true h2]; rfl
    · rw [if_neg h1, if_neg h2, decide_eq_true h1, decide_eq_false h2]; rfl
theorem c_Book_hasBoth (d : Nat) {x y : Int32} (hW : I 5 3 = nI W) : ev_do (d + 2) M_Book_hasBoth [.ref 5, .int x, .int y] (ev_mk h I L) = ev_ri (fl (blw x W && blw y W && decide (x ≠ y))) (ev_mk h I L) := by
  rw [e_Book_hasBoth_0, c_Book_has d hW, k_I, k_1, k_2, k_3]
  cases blw x W with
  | false => rw [if_pos (show fl false = 0 from rfl)]; rfl
  | true =>
    rw [if_neg (show ¬ fl true = 0 by decide), c_Book_has d hW, k_I, k_1, k_2, k_3]
    cases blw y W with
    | false => rw [if_pos (show fl false = 0 from rfl)]; rfl
    | true =>
      rw [if_neg (show ¬ fl true = 0 by decide)]
      by_cases e : x = y
      · rw [if_pos e, decide_eq_false (fun z => z e)]; rfl
      · rw [if_neg e, decide_eq_true e]; rfl
theorem m1_le {x : Int32} {n : Nat} (hn : n < 2147483647) (hx : ¬ x < 0) : nI n - 1 < x ↔ ¬ x < nI n := by
  obtain ⟨a, ha, rfl⟩ := q_ge hx
  rw [q_lt ha (by omega)]
  cases n with
  | zero =>
    have e : nI 0 - 1 = -1 := by decide
    rw [e, Int32.lt_iff_toInt_lt, q_ti ha]
    constructor
    · intro _; omega
    · intro _
      show (-1 : Int32).toInt < _
      rw [show (-1 : Int32).toInt = -1 by decide]
      omega
  | succ n =>
    rw [show (1 : Int32) = nI 1 from rfl, q_sub (by omega), q_lt (by omega) ha]
    omega
theorem c_Mo_isWord (d : Nat) {x : Int32} (hW : I 139 3 = nI W) (hW8 : W ≤ 8) : ev_do (d + 2) M_Mo_isWord [.ref 139, .int x] (ev_mk h I L) = ev_ri (fl (blw x W)) (ev_mk h I L) := by
  rw [e_Mo_isWord_0, hW]
  have e := c_Mo_in d x 0 (nI W - 1) h I L
  rw [show (0 : Int32).toInt64 = 0 by decide] at e
  rw [e, k_I, k_1, k_2, k_3]
  have e2 : (if ¬ x < 0 ∧ ¬ nI W - 1 < x then (1 : Int32) else 0) = fl (blw x W) := by
    unfold blw
    by_cases h1 : x < 0
    · rw [if_neg (fun z => z.1 h1), decide_eq_false (fun z => z h1)]; rfl
    · by_cases h2 : x < nI W
      · rw [if_pos ⟨h1, fun z => (m1_le (by omega) h1).mp z h2⟩, decide_eq_true h1, decide_eq_true h2]; rfl
      · rw [if_neg (fun z => z.2 ((m1_le (by omega) h1).mpr h2)), decide_eq_true h1, decide_eq_false h2]; rfl
  rw [e2, if_pos (fl_fit _)]
theorem c_Mo_arePair (d : Nat) {x y : Int32} (hW : I 139 3 = nI W) (hW8 : W ≤ 8) : ev_do (d + 3) M_Mo_arePair [.ref 139, .int x, .int y] (ev_mk h I L) = ev_ri (fl (blw x W && blw y W && decide (x ≠ y))) (ev_mk h I L) := by
  rw [e_Mo_arePair_0, c_Mo_isWord d hW hW8, k_I, k_1, k_2, k_3]
  cases blw x W with
  | false => rw [if_pos (show fl false = 0 from rfl)]; rfl
  | true =>
    rw [if_neg (show ¬ fl true = 0 by decide), c_Mo_isWord d hW hW8, k_I, k_1, k_2, k_3]
    cases blw y W with
    | false => rw [if_pos (show fl false = 0 from rfl)]; rfl
    | true =>
      rw [if_neg (show ¬ fl true = 0 by decide)]
      by_cases e : x = y
      · rw [if_pos e, decide_eq_false (fun z => z e)]; rfl
      · rw [if_neg e, decide_eq_true e]; rfl
end HS

/-! The row that is told. -/
section TE
variable {h : Bool × Nat × Nat} {I : Nat → Nat → Int32} {L : Nat → Nat → Int64}
theorem c_Row_tell (d : Nat) {n : Nat} {x : Int64} (hn : I 3 1 = nI n) (hn9 : n < 9) : ev_do (d + 1) M_Row_tell [.ref 3, .long x] (ev_mk h I L) = ev_rn (ev_mk h (ev_up I 3 1 (nI (n + 1))) (ev_up L 4 n x)) := by
  rw [e_Row_tell_0, hn, if_pos (show nI n < (9 : Int32) from (q_lt (b := 9) (by omega) (by omega)).mpr hn9), q_in (by omega), if_pos (by simpa using hn9), q_cl (by omega), show nI n + 1 = nI (n + 1) from q_add n 1]
theorem c_Row_tellTwo (d : Nat) {x y : Int64} : ev_do (d + 2) M_Row_tellTwo [.ref 3, .long x, .long y] (ev_mk h I L) = ev_rn (ev_mk h (ev_up (ev_up (ev_up I 3 1 0) 3 1 (nI 1)) 3 1 (nI 2)) (ev_up (ev_up L 4 0 x) 4 1 y)) := by
  have e1 := c_Row_tell (h := h) (I := ev_up I 3 1 0) (L := L) d (n := 0) (x := x) (u_at _ _ _ _) (by omega)
  have e2 := c_Row_tell (h := h) (I := ev_up (ev_up I 3 1 0) 3 1 (nI 1)) (L := ev_up L 4 0 x) d (n := 1) (x := y) (u_at _ _ _ _) (by omega)
  rw [e_Row_tellTwo_0, e1, k_V, k_1, k_2, k_3, e2, k_V, k_1, k_2, k_3]
theorem c_Mo_enters (d : Nat) {n : Nat} {x : Int64} (hn : I 139 1 = nI n) (hn9 : n < 24) : ev_do (d + 1) M_Mo_enters [.ref 139, .long x] (ev_mk h I L) = ev_rn (ev_mk h (ev_up I 139 1 (nI (n + 1))) (ev_up L 140 n x)) := by
  rw [e_Mo_enters_0, hn, q_in (by omega), if_pos (by simpa using hn9), q_cl (by omega), show nI n + 1 = nI (n + 1) from q_add n 1]
end TE

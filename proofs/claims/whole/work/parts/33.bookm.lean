/-! The reference's words. -/
def bkM (I : Nat → Nat → Int32) (W : Nat) (len : Nat → Nat) (lt : Nat → Nat → Nat) : Prop := I 139 3 = nI W ∧ W ≤ 8 ∧ ∀ w, w < 8 → I 142 w = nI (len w) ∧ len w ≤ 8 ∧ ∀ i, i < len w → I 141 (8 * w + i) = nI (lt w i) ∧ lt w i < 8
/-- only these cells have changed -/
def exc (ks : List Nat) (I I' : Nat → Nat → Int32) : Prop := ∀ a, a ∉ ks → I' a = I a
theorem exc.rf {ks : List Nat} {I : Nat → Nat → Int32} : exc ks I I := fun _ _ => rfl
theorem exc.tr {ks : List Nat} {I J K : Nat → Nat → Int32} (h1 : exc ks I J) (h2 : exc ks J K) : exc ks I K := fun a ha => (h2 a ha).trans (h1 a ha)
theorem exc.mono {ks ks' : List Nat} {I J : Nat → Nat → Int32} (h1 : exc ks I J) (h : ∀ a, a ∈ ks → a ∈ ks') : exc ks' I J := fun a ha => h1 a (fun z => ha (h a z))
theorem exc.up {ks : List Nat} {I J : Nat → Nat → Int32} {k j : Nat} {v : Int32} (h1 : exc ks I J) (h : k ∈ ks) : exc ks I (ev_up J k j v) := fun a ha => by
  rw [← h1 a ha]
  funext b
  exact u_c (fun z => ha (z ▸ h))
theorem bkM.ex {ks : List Nat} {I J : Nat → Nat → Int32} {W : Nat} {len : Nat → Nat} {lt : Nat → Nat → Nat} (hB : bkM I W len lt) (h : exc ks I J) (h1 : 139 ∉ ks) (h2 : 141 ∉ ks) (h3 : 142 ∉ ks) : bkM J W len lt := by
  unfold bkM
  rw [h 139 h1, h 141 h2, h 142 h3]
  exact hB
section BM
variable {h : Bool × Nat × Nat} {I : Nat → Nat → Int32} {L : Nat → Nat → Int64} {W : Nat} {len : Nat → Nat} {lt : Nat → Nat → Nat}
theorem c_Mo_has (d : Nat) {n j : Nat} (hj : j < 32) : ev_do (d + 1) M_Mo_has [.int (nI n), .int (nI j)] (ev_mk h I L) = ev_ri (if n.testBit j then 1 else 0) (ev_mk h I L) := by
  rw [e_Mo_has_0, x_bit hj]
  cases n.testBit j <;> rfl
theorem c_Mo_lays (d : Nat) (hB : bkM I W len lt) {k w u s : Nat} (hk : k = 153 ∨ k = 154) (hw : w < 8) : ∃ I', ev_do (d + 2) M_Mo_lays [.ref 139, .ref k, .int (nI w), .int (nI u), .int (nI s)] (ev_mk h I L) = ev_ri (nI (looks (lt w) (len w) u s).length) (ev_mk h I' L) ∧ exc [k] I I' ∧ ∀ j, j < (looks (lt w) (len w) u s).length → I' k j = nI ((looks (lt w) (len w) u s).getD j 0) := by
  have hl := (hB.2.2 w hw).1
  have hl8 := (hB.2.2 w hw).2.1
  have hk1 : 139 ∉ [k] ∧ 141 ∉ [k] ∧ 142 ∉ [k] := by rcases hk with rfl | rfl <;> simp
  have loop : ∀ m i : Nat, i + m = len w → ∀ J, exc [k] I J → (∀ j, j < (looks (lt w) i u s).length → J k j = nI ((looks (lt w) i u s).getD j 0)) → ∃ I', ev_at (d + 1) M_Mo_lays 6 [.ref 139, .ref k, .int (nI w), .int (nI u), .int (nI s), .int (nI (looks (lt w) i u s).length), .int (nI i), .float 0] [] (ev_mk h J L) = ev_ri (nI (looks (lt w) (len w) u s).length) (ev_mk h I' L) ∧ exc [k] I I' ∧ ∀ j, j < (looks (lt w) (len w) u s).length → I' k j = nI ((looks (lt w) (len w) u s).getD j 0) := by
    intro m
    induction m with
    | zero =>
      intro i hi J hJ hj
      obtain ⟨-, -, hBJ⟩ := hB.ex hJ hk1.1 hk1.2.1 hk1.2.2
      have hl' := (hBJ w hw).1
      have ei : i = len w := by omega
      subst ei
      refine ⟨J, ?_, hJ, hj⟩
      rw [e_Mo_lays_6 _ _ _ _ _ _ hk, q_in (by omega), if_pos (by simpa using hw), q_cl (by omega), hl', if_neg (fun z => absurd ((q_lt (by omega) (by omega)).mp z) (by omega))]
    | succ m ih =>
      intro i hi J hJ hj
      obtain ⟨-, -, hBJ⟩ := hB.ex hJ hk1.1 hk1.2.1 hk1.2.2
      obtain ⟨hl', -, hlt'⟩ := hBJ w hw
      obtain ⟨ht, ht8⟩ := hlt' i (by omega)
      have hlen := look_len (lt w) (fun i => u.testBit i && s.testBit (lt w i)) i
      have hlen' : (looks (lt w) i u s).length ≤ i := hlen
      have eL : looks (lt w) (i + 1) u s = looks (lt w) i u s ++ (if (u.testBit i && s.testBit (lt w i)) then [] else [lt w i]) := rfl
      have e1 : ev_at (d + 1) M_Mo_lays 6 [.ref 139, .ref k, .int (nI w), .int (nI u), .int (nI s), .int (nI (looks (lt w) i u s).length), .int (nI i), .float 0] [] (ev_mk h J L) = if (u.testBit i && s.testBit (lt w i)) then ev_at (d + 1) M_Mo_lays 6 [.ref 139, .ref k, .int (nI w), .int (nI u), .int (nI s), .int (nI (looks (lt w) i u s).length), .int (nI (i + 1)), .float 0] [] (ev_mk h J L) else ev_at (d + 1) M_Mo_lays 6 [.ref 139, .ref k, .int (nI w), .int (nI u), .int (nI s), .int (nI ((looks (lt w) i u s).length + 1)), .int (nI (i + 1)), .float 0] [] (ev_mk h (ev_up J k (looks (lt w) i u s).length (nI (lt w i))) L) := by
        have e8 : (8 : Int32) * nI w + nI i = nI (8 * w + i) := by rw [show (8 : Int32) = nI 8 from rfl, q_mul, q_add]
        have e50 : ev_at (d + 1) M_Mo_lays 50 [.ref 139, .ref k, .int (nI w), .int (nI u), .int (nI s), .int (nI (looks (lt w) i u s).length), .int (nI i), .int (nI (lt w i))] [] (ev_mk h J L) = ev_at (d + 1) M_Mo_lays 6 [.ref 139, .ref k, .int (nI w), .int (nI u), .int (nI s), .int (nI ((looks (lt w) i u s).length + 1)), .int (nI (i + 1)), .float 0] [] (ev_mk h (ev_up J k (looks (lt w) i u s).length (nI (lt w i))) L) := by
          rw [e_Mo_lays_50 _ _ _ _ _ _ _ hk, q_in (by omega), if_pos (by simp; omega), q_cl (by omega), show (1 : Int32) = nI 1 from rfl, q_add, q_add]
        rw [e_Mo_lays_6 _ _ _ _ _ _ hk, q_in (by omega), if_pos (by simpa using hw), q_cl (by omega), hl', if_pos ((q_lt (by omega) (by omega)).mpr (by omega)), e8, q_in (by omega), if_pos (by simp; omega), q_cl (by omega), ht, c_Mo_has d (by omega), k_I, k_1, k_2, k_3, e50]
        cases hu : u.testBit i with
        | false => rw [if_pos (show (if false = true then (1 : Int32) else 0) = 0 from rfl)]; rfl
        | true =>
          rw [if_neg (by decide), c_Mo_has d (by omega), k_I, k_1, k_2, k_3, e50, show (1 : Int32) = nI 1 from rfl, q_add]
          cases hs : s.testBit (lt w i) with
          | false => rfl
          | true => rfl
      rw [e1]
      cases hg : (u.testBit i && s.testBit (lt w i)) with
      | true =>
        rw [if_pos rfl]
        rw [hg] at eL
        simp only [if_true, List.append_nil] at eL
        have := ih (i + 1) (by omega) J hJ (by rw [eL]; exact hj)
        rw [eL] at this
        exact this
      | false =>
        rw [if_neg (by decide)]
        rw [hg] at eL
        simp only [Bool.false_eq_true, if_false] at eL
        have := ih (i + 1) (by omega) (ev_up J k (looks (lt w) i u s).length (nI (lt w i))) (hJ.up (by simp)) (by
          rw [eL]
          intro j hj2
          rw [List.length_append] at hj2
          by_cases e : j = (looks (lt w) i u s).length
          · subst e
            rw [u_at]
            simp
          · rw [u_j e, hj j (by simp at hj2; omega)]
            rw [List.getD_eq_getElem?_getD, List.getD_eq_getElem?_getD, List.getElem?_append_left (by simp at hj2; omega)])
        rw [eL, List.length_append] at this
        exact this
  rw [e_Mo_lays_0 _ _ _ _ hk]
  exact loop (len w) 0 (by omega) I exc.rf (by intro j hj; simp [looks, look] at hj)
end BM

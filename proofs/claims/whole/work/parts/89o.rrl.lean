/-! A rule read by the reference: the answer. -/
section RR
variable {h : Bool × Nat × Nat} {I K : Nat → Nat → Int32} {L : Nat → Nat → Int64}
/-- the reading of a text as a rule -/
def rlQ (t : Nat × (Nat → Nat)) : Bool × Nat × List Nat := if t.1 = 0 then (true, 0, []) else pr t.2 (min 40 t.1) 400 0 0 0 []
/-- its fault, 0 if there is none -/
def rlV (t : Nat × (Nat → Nat)) : Int32 := if 40 < t.1 ∧ ¬ (((rlQ t).1 && decide ((rlQ t).2.1 = min 40 t.1)) = false ∧ (rlQ t).2.1 < 40) then -1 - nI 40 else if ((rlQ t).1 && decide ((rlQ t).2.1 = min 40 t.1)) = true then 0 else -1 - nI (rlQ t).2.1
theorem c_readsRule (d : Nat) {t : Nat × (Nat → Nat)} (ht : txM I t) (h8 : t.1 ≤ 80) (h2 : ∀ j, j < t.1 → t.2 j < 256) : ∃ K', ev_do (d + 98) M_Mo_readsRule [.ref 139] (ev_mk h I L) = ev_ri (rlV t) (ev_mk h K' L) ∧ tkM K' (rlQ t).2.2 ∧ K' 139 10 = 0 ∧ exc [139, 150] I K' ∧ ∀ j, j ≠ 10 → j ≠ 11 → j ≠ 12 → j ≠ 13 → j ≠ 21 → K' 139 j = I 139 j := by
  have hr : rdM (ev_up (bgM I 40 t.1) 139 21 0) t.2 (min 40 t.1) 0 := (bg_rd ht h8 h2).w (by omega) (by omega)
  have hn : ∀ j, j ≠ 10 → j ≠ 11 → j ≠ 12 → j ≠ 13 → j ≠ 21 → ev_up (bgM I 40 t.1) 139 21 0 139 j = I 139 j := fun j a b c d' e => by rw [u_j e, bg_j ⟨a, b, c, d'⟩]
  have h13 : ev_up (bgM I 40 t.1) 139 21 0 139 13 = nI 0 := by
    rw [u_j (by omega)]
    unfold bgM
    rw [u_j (by omega), u_at]; rfl
  have h10 : ev_up (bgM I 40 t.1) 139 21 0 139 10 = 0 := (u_j (by omega)).trans bg_10
  have ht0 : tkM (ev_up (bgM I 40 t.1) 139 21 0) [] := ⟨u_at _ _ _ _, fun i hi => absurd hi (Nat.not_lt_zero _)⟩
  have x0 : exc [139, 150] I (ev_up (bgM I 40 t.1) 139 21 0) := ((bg_ex I 40 t.1).mono (by simp)).up (by simp)
  have e29 : ∀ (b : Bool) (p : Nat) (K' : Nat → Nat → Int32), rdM K' t.2 (min 40 t.1) p → (rlQ t).1 = b → (rlQ t).2.1 = p → ev_at (d + 97) M_Mo_readsRule 29 [.ref 139, .int (nI t.1), .float 0] [.int (fl b)] (ev_mk h K' L) = ev_ri (rlV t) (ev_mk h K' L) := by
    intro b p K' hr' h1 h2'
    rw [e_Mo_readsRule_29, show (.int 40 : Value) = .int (nI 40) from rfl, c_faultOf (d + 96) (by omega) (by omega) hr', k_I, k_1, k_2, k_3]
    unfold rlV
    rw [h1, h2']
  rw [e_Mo_readsRule_0, show (.int 40 : Value) = .int (nI 40) from rfl, c_begins (d + 96) (by omega) h8 ht.1, k_I, k_1, k_2, k_3]
  by_cases z : t.1 = 0
  · have hq : rlQ t = (true, 0, []) := if_pos z
    rw [if_pos (show nI t.1 = 0 by rw [z]; rfl)]
    refine ⟨_, e29 true 0 _ hr (by rw [hq]) (by rw [hq]), by rw [hq]; exact ht0, h10, x0, hn⟩
  · have hq : rlQ t = pr t.2 (min 40 t.1) 400 0 0 0 [] := if_neg z
    rw [if_neg (show ¬ nI t.1 = 0 from fun y => z ((q_eq (b := 0) (by omega) (by omega)).mp y))]
    obtain ⟨K1, e1, o1, o2, o3, o4⟩ := (pr_all (h := h) (L := L) (tx := t.2) (e := min 40 t.1) (by omega) 400).2.1 0 0 0 [] (ev_up (bgM I 40 t.1) 139 21 0) (d + 97) (by omega) (Nat.zero_le _) (by omega) (Nat.le_refl _) (by omega) (by omega) hr h13 ht0
    refine ⟨K1, ?_, by rw [hq]; exact o2, by rw [o4.2 10 (by omega) (by omega) (by omega)]; exact h10, x0.tr o4.1, fun j a b c d' e' => by rw [o4.2 j b d' e']; exact hn j a b c d' e'⟩
    rw [show (.int 0 : Value) = .int (nI 0) from rfl, e1, k_I, k_1, k_2, k_3]
    have := e29 (pr t.2 (min 40 t.1) 400 0 0 0 []).1 _ K1 o1 (by rw [hq]) (by rw [hq])
    cases hb : (pr t.2 (min 40 t.1) 400 0 0 0 []).1 with
    | false => rw [hb] at this; rw [if_pos (show fl false = 0 from rfl)]; exact this
    | true => rw [hb] at this; rw [if_neg (show ¬ fl true = 0 by decide)]; exact this
theorem c_laysCode (d : Nat) {k n : Nat} (hk : k = 150 ∨ k = 170) (hn : n ≤ 80) : ∃ K', ev_do (d + 1) M_Mo_laysCode [.ref 139, .ref k, .int (nI n)] (ev_mk h K L) = ev_rn (ev_mk h K' L) ∧ exc [139, 149] K K' ∧ (∀ j, j ≠ 20 → K' 139 j = K 139 j) ∧ K' 139 20 = nI n ∧ ∀ j, j < n → K' 149 j = K k j := by
  rw [e_Mo_laysCode_0 (hk1 := hk), show (.int 0 : Value) = .int (nI 0) from rfl]
  obtain ⟨K1, e1, x1, p1⟩ := lpF (F := fun i K' => ev_at d M_Mo_laysCode 7 [.ref 139, .ref k, .int (nI n), .int (nI i)] [] (ev_mk h K' L)) (fun i K' => exc [149] (ev_up K 139 20 (nI n)) K' ∧ ∀ j, j < i → K' 149 j = K k j) n (fun i K' hi ⟨q1, q2⟩ => by
    refine ⟨ev_up K' 149 i (K k i), ?_, q1.up (by simp), fun j hj => ?_⟩
    · show ev_at d M_Mo_laysCode 7 [.ref 139, .ref k, .int (nI n), .int (nI i)] [] (ev_mk h K' L) = _
      rw [e_Mo_laysCode_7 (hk1 := hk), if_pos ((q_lt (by omega) (by omega)).mpr hi), q_in (by omega), if_pos (by simp <;> omega), if_pos (by simp <;> omega), q_cl (by omega), q1 k (by simp <;> omega), u_c (by omega), show nI i + 1 = nI (i + 1) from q_add i 1]
    · by_cases z : j = i
      · rw [z, u_at]
      · rw [u_j z]; exact q2 j (by omega)) (ev_up K 139 20 (nI n)) ⟨exc.rf, fun j hj => absurd hj (Nat.not_lt_zero _)⟩
  refine ⟨K1, e1.trans ?_, (exc.rf.up (by simp) : exc [139, 149] K (ev_up K 139 20 (nI n))).tr (x1.mono (by simp)), fun j hj => by rw [x1 139 (by simp), u_j hj], by rw [x1 139 (by simp), u_at], p1⟩
  show ev_at d M_Mo_laysCode 7 [.ref 139, .ref k, .int (nI n), .int (nI n)] [] (ev_mk h K1 L) = _
  rw [e_Mo_laysCode_7 (hk1 := hk), if_neg (fun z => absurd ((q_lt (by omega) (by omega)).mp z) (by omega))]
end RR

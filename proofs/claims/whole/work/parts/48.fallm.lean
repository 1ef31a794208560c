/-! Pairs that fall together, the reference. -/
/-- the pair a, b is one by the strike s and isn't by none -/
def fal (len : Nat → Nat) (lt : Nat → Nat → Nat) (u : Nat → Nat) (s a b : Nat) : Bool := decide (looks (lt a) (len a) (u a) s = looks (lt b) (len b) (u b) s) && !decide (looks (lt a) (len a) (u a) 0 = looks (lt b) (len b) (u b) 0)
section FM
variable {h : Bool × Nat × Nat} {I : Nat → Nat → Int32} {L : Nat → Nat → Int64} {W : Nat} {len : Nat → Nat} {lt : Nat → Nat → Nat}
theorem c_Mo_fallen (d : Nat) (hB : bkM I W len lt) {c s : Nat} {u : Nat → Nat} (hc : c = 143 ∨ c = 144) (hu : ∀ w, w < W → I c w = nI (u w)) : ∃ I', ev_do (d + 4) M_Mo_fallen [.ref 139, .ref c, .int (nI s)] (ev_mk h I L) = ev_ri (nI (prs (fal len lt u s) W 0 W)) (ev_mk h I' L) ∧ exc [153, 154] I I' := by
  have hW8 := hB.2.1
  have hcn : c ∉ [153, 154] := by simp; omega
  have inner : ∀ m b a acc : Nat, a < W → b + m = W → ∀ J, exc [153, 154] I J → ∃ J', ev_at (d + 3) M_Mo_fallen 20 [.ref 139, .ref c, .int (nI s), .int (nI acc), .int (nI a), .int (nI b)] [] (ev_mk h J L) = ev_at (d + 3) M_Mo_fallen 5 [.ref 139, .ref c, .int (nI s), .int (nI (acc + ctr (fal len lt u s a) b m)), .int (nI (a + 1)), .float 0] [] (ev_mk h J' L) ∧ exc [153, 154] I J' := by
    intro m
    induction m with
    | zero =>
      intro b a acc ha hb J hJ
      have hBJ := hB.ex hJ (by simp) (by simp) (by simp)
      refine ⟨J, ?_, hJ⟩
      rw [e_Mo_fallen_20 _ _ _ _ _ hc, hBJ.1, if_neg (fun z => absurd ((q_lt (by omega) (by omega)).mp z) (by omega)), show nI a + 1 = nI (a + 1) from q_add a 1]
      rfl
    | succ m ih =>
      intro b a acc ha hb J hJ
      have hBJ := hB.ex hJ (by simp) (by simp) (by simp)
      have huJ : ∀ w, w < W → J c w = nI (u w) := fun w hw => by rw [hJ c hcn]; exact hu w hw
      obtain ⟨J1, g1, g2⟩ := c_Mo_isOneBy (h := h) (L := L) (s := s) d hBJ hc (by omega : a < 8) (by omega : b < 8) (huJ a ha) (huJ b (by omega))
      have hJ1 := hJ.tr g2
      have huJ1 : ∀ w, w < W → J1 c w = nI (u w) := fun w hw => by rw [hJ1 c hcn]; exact hu w hw
      obtain ⟨J2, k1, k2⟩ := c_Mo_isOneBy (h := h) (L := L) (s := 0) d (hB.ex hJ1 (by simp) (by simp) (by simp)) hc (by omega : a < 8) (by omega : b < 8) (huJ1 a ha) (huJ1 b (by omega))
      have e61 : ∀ (z : Bool) (K : Nat → Nat → Int32), fal len lt u s a b = z → exc [153, 154] I K → ∃ J', ev_at (d + 3) M_Mo_fallen 61 [.ref 139, .ref c, .int (nI s), .float 0, .int (nI a), .int (nI b)] [.int (fl z), .int (nI acc)] (ev_mk h K L) = ev_at (d + 3) M_Mo_fallen 5 [.ref 139, .ref c, .int (nI s), .int (nI (acc + ctr (fal len lt u s a) b (m + 1))), .int (nI (a + 1)), .float 0] [] (ev_mk h J' L) ∧ exc [153, 154] I J' := by
        intro z K hz hK
        obtain ⟨J', j1, j2⟩ := ih (b + 1) a (acc + (if z then 1 else 0)) ha (by omega) K hK
        refine ⟨J', ?_, j2⟩
        rw [e_Mo_fallen_61 _ _ _ _ _ _ hc, c_Mo_flag (d + 2), k_I, k_1, k_2, k_3, show nI b + 1 = nI (b + 1) from q_add b 1, show fl z = nI (if z then 1 else 0) by cases z <;> rfl, q_add, j1, ctr, hz, Nat.add_assoc]
      rw [e_Mo_fallen_20 _ _ _ _ _ hc, hBJ.1, if_pos ((q_lt (by omega) (by omega)).mpr (by omega)), g1, k_I, k_1, k_2, k_3]
      by_cases p1 : looks (lt a) (len a) (u a) s = looks (lt b) (len b) (u b) s
      · rw [decide_eq_true p1, if_neg (show ¬ fl true = 0 by decide), show (.int 0 : Value) = .int (nI 0) from rfl, k1, k_I, k_1, k_2, k_3]
        by_cases p2 : looks (lt a) (len a) (u a) 0 = looks (lt b) (len b) (u b) 0
        · rw [decide_eq_true p2, if_neg (show ¬ fl true = 0 by decide)]
          exact e61 false J2 (by unfold fal; rw [decide_eq_true p1, decide_eq_true p2]; rfl) (hJ1.tr k2)
        · rw [decide_eq_false p2, if_pos (show fl false = 0 from rfl)]
          exact e61 true J2 (by unfold fal; rw [decide_eq_true p1, decide_eq_false p2]; rfl) (hJ1.tr k2)
      · rw [decide_eq_false p1, if_pos (show fl false = 0 from rfl)]
        exact e61 false J1 (by unfold fal; rw [decide_eq_false p1]; rfl) hJ1
  have outer : ∀ m a acc : Nat, a + m = W → ∀ J, exc [153, 154] I J → ∃ J', ev_at (d + 3) M_Mo_fallen 5 [.ref 139, .ref c, .int (nI s), .int (nI acc), .int (nI a), .float 0] [] (ev_mk h J L) = ev_ri (nI (acc + prs (fal len lt u s) W a m)) (ev_mk h J' L) ∧ exc [153, 154] I J' := by
    intro m
    induction m with
    | zero =>
      intro a acc ha J hJ
      have hBJ := hB.ex hJ (by simp) (by simp) (by simp)
      refine ⟨J, ?_, hJ⟩
      rw [e_Mo_fallen_5 _ _ _ _ hc, hBJ.1, if_neg (fun z => absurd ((q_lt (by omega) (by omega)).mp z) (by omega))]
      rfl
    | succ m ih =>
      intro a acc ha J hJ
      have hBJ := hB.ex hJ (by simp) (by simp) (by simp)
      obtain ⟨J1, g1, g2⟩ := inner (W - (a + 1)) (a + 1) a acc (by omega) (by omega) J hJ
      obtain ⟨J2, k1, k2⟩ := ih (a + 1) (acc + ctr (fal len lt u s a) (a + 1) (W - (a + 1))) (by omega) J1 g2
      refine ⟨J2, ?_, k2⟩
      rw [e_Mo_fallen_5 _ _ _ _ hc, hBJ.1, if_pos ((q_lt (by omega) (by omega)).mpr (by omega)), show nI a + 1 = nI (a + 1) from q_add a 1, g1, k1, prs, Nat.add_assoc]
  rw [e_Mo_fallen_0 _ _ hc]
  have := outer W 0 0 (by omega) I exc.rf
  rw [Nat.zero_add] at this
  exact this
end FM

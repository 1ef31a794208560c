/-! chain. -/
section OY
variable {h : Bool × Nat × Nat} {d : Nat} {I J : Nat → Nat → Int32} {L : Nat → Nat → Int64} {A : aP}
def nrA (A : aP) (k i j : Nat) : Bool := decide (i ≠ j) && decide (edA A i j (uO (aS A) 24) ≤ k)
theorem nrA_sym (A : aP) (k i j : Nat) : nrA A k i j = nrA A k j i := by
  unfold nrA; rw [edA_sym A i j]; congr 1
  exact decide_eq_decide.mpr ⟨fun z w => z w.symm, fun z w => z w.symm⟩
def nD (x : Nat) : Int32 := if x = 100 then -1 else nI x
theorem nD_eq {x t : Nat} (hx : x ≤ 100) (ht : t < 100) : nD x = nI t ↔ x = t := by
  unfold nD
  by_cases e : x = 100
  · rw [if_pos e]
    exact ⟨fun z => absurd (show nI t < 0 by rw [← z]; decide) (q_nn (by omega)), fun z => by omega⟩
  · rw [if_neg e]; exact q_eq (by omega) (by omega)
theorem nD_m1 {x : Nat} (hx : x ≤ 100) : nD x = -1 ↔ x = 100 := by
  unfold nD
  by_cases e : x = 100
  · rw [if_pos e]; exact ⟨fun _ => e, fun _ => rfl⟩
  · rw [if_neg e]; exact ⟨fun z => absurd (show nI x < 0 by rw [z]; decide) (q_nn (by omega)), fun z => absurd z e⟩
theorem frC.near (f : frC I J) {i j : Nat} {v : Int32} (hi : i < 8) (hj : j < 8) (hij : i ≠ j) : frC I (ev_up J 127 (i * 8 + j) v) := by
  refine ⟨fun a ha => ?_, ?_, fun w hw => ?_⟩
  · rw [u_cf (fun z => ha (by rw [z]; unfold scC; omega))]; exact f.1 a ha
  · rw [u_c (by omega)]; exact f.2.1
  · rw [u_j (by omega)]; exact f.2.2 w hw
theorem fl_nar (b : Bool) : vp_nar .boolean (fl b) = fl b := by cases b <;> rfl
theorem c_markNear (d : Nat) (hw : wfA A) (hi : invC I L A) (f : frC I J) {k : Nat} (hk : k < 9) {L' : Nat → Nat → Int64} : ∃ K, ev_do (d + 7) M_Measure_markNear [.ref 114, .ref 17, .int (nI k)] (ev_mk h J L') = ev_rn (ev_mk h K L') ∧ frC I K ∧ K 3 = J 3 ∧ ∀ i j, i < (aBk A).1 → j < (aBk A).1 → K 127 (8 * i + j) = fl (nrA A k i j) := by
  have hW := hw.2.2.1.1
  rw [e_Measure_markNear_0, show (.int 0 : Value) = .int (nI 0) from rfl]
  refine lpX (F := fun i K => ev_at (d + 6) M_Measure_markNear 2 [.ref 114, .ref 17, .int (nI k), .int (nI i), .float 0, .float 0] [] (ev_mk h K L')) (fun i K => frC I K ∧ K 3 = J 3 ∧ ∀ a b, a < i → b < a → K 127 (8 * a + b) = fl (nrA A k a b) ∧ K 127 (8 * b + a) = fl (nrA A k a b)) (res := fun K => ev_rn (ev_mk h K L')) (aBk A).1 ?_ ?_ 0 (Nat.zero_le _) J ⟨f, rfl, fun a b z => absurd z (by omega)⟩
  · intro i K hi' ⟨p1, p2, p3⟩
    refine Or.inl ?_
    show ∃ s', ev_at (d + 6) M_Measure_markNear 2 [.ref 114, .ref 17, .int (nI k), .int (nI i), .float 0, .float 0] [] (ev_mk h K L') = ev_at (d + 6) M_Measure_markNear 2 [.ref 114, .ref 17, .int (nI k), .int (nI (i + 1)), .float 0, .float 0] [] (ev_mk h s' L') ∧ _
    rw [e_Measure_markNear_2, (hi.bk p1).1.1, if_pos ((q_lt (by omega) (by omega)).mpr hi'), show (.int 0 : Value) = .int (nI 0) from rfl]
    obtain ⟨K1, e1, q1, q2, q3⟩ := lpF (F := fun j K => ev_at (d + 6) M_Measure_markNear 16 [.ref 114, .ref 17, .int (nI k), .int (nI i), .int (nI j), .float 0] [] (ev_mk h K L')) (fun j K => frC I K ∧ K 3 = J 3 ∧ ∀ a b, (a < i ∨ (a = i ∧ b < j)) → b < a → K 127 (8 * a + b) = fl (nrA A k a b) ∧ K 127 (8 * b + a) = fl (nrA A k a b)) i (fun j K hj ⟨p1, p2, p3⟩ => by
      obtain ⟨K2, e2, f2, x2⟩ := xEd (h := h) (L' := L') (d + 1) hw hi p1 (a := i) (b := j) (by omega) (by omega) (uO (aS A) 24)
      have hle := edA_le hw (a := i) (b := j) (by omega) (by omega) (uO (aS A) 24)
      have hb : nrA A k i j = decide (edA A i j (uO (aS A) 24) ≤ k) := by unfold nrA; rw [decide_eq_true (show i ≠ j by omega), Bool.true_and]
      refine ⟨ev_up (ev_up K2 127 (i * 8 + j) (fl (nrA A k i j))) 127 (j * 8 + i) (fl (nrA A k i j)), ?_, (f2.near (by omega) (by omega) (by omega)).near (by omega) (by omega) (by omega), ?_, fun a b hab hba => ?_⟩
      · show ev_at (d + 6) M_Measure_markNear 16 [.ref 114, .ref 17, .int (nI k), .int (nI i), .int (nI j), .float 0] [] (ev_mk h K L') = _
        rw [e_Measure_markNear_16, if_pos ((q_lt (by omega) (by omega)).mpr hj), hi.st3 hw p1, e2, k_I, k_1, k_2, k_3]
        have e43 : ∀ y0 : Int32, ev_at (d + 6) M_Measure_markNear 43 [.ref 114, .ref 17, .int (nI k), .int (nI i), .int (nI j), .float 0] [.int y0] (ev_mk h K2 L') = ev_at (d + 6) M_Measure_markNear 16 [.ref 114, .ref 17, .int (nI k), .int (nI i), .int (nI (j + 1)), .float 0] [] (ev_mk h (ev_up (ev_up K2 127 (i * 8 + j) (vp_nar .boolean y0)) 127 (j * 8 + i) (vp_nar .boolean y0)) L') := by
          intro y0
          rw [e_Measure_markNear_43, show nI i * 8 + nI j = nI (i * 8 + j) by rw [show (8 : Int32) = nI 8 from rfl, q_mul, q_add], show nI j * 8 + nI i = nI (j * 8 + i) by rw [show (8 : Int32) = nI 8 from rfl, q_mul, q_add], q_in (by omega), q_in (by omega), if_pos (by simp <;> omega), if_pos (by simp <;> omega), q_cl (by omega), q_cl (by omega), show nI j + 1 = nI (j + 1) from q_add j 1]
        rw [hb]
        by_cases e : k < edA A i j (uO (aS A) 24)
        · rw [if_pos ((q_lt (by omega) (by omega)).mpr e), e43, decide_eq_false (by omega)]; rfl
        · rw [if_neg (fun z => e ((q_lt (by omega) (by omega)).mp z)), e43, decide_eq_true (by omega)]; rfl
      · rw [u_cf (by omega), u_cf (by omega), x2 3 (by simp)]; exact p2
      · by_cases e : a = i ∧ b = j
        · rw [e.1, e.2, u_j (by omega), show 8 * i + j = i * 8 + j by omega, u_at, show 8 * j + i = j * 8 + i by omega, u_at]; exact ⟨rfl, rfl⟩
        · rw [u_j (by omega), u_j (by omega), u_j (by omega), u_j (by omega), x2 127 (by simp)]
          exact p3 a b (by omega) hba) K ⟨p1, p2, fun a b hab hba => p3 a b (by omega) hba⟩
    refine ⟨K1, e1.trans ?_, q1, q2, fun a b ha hb => q3 a b (by omega) hb⟩
    show ev_at (d + 6) M_Measure_markNear 16 [.ref 114, .ref 17, .int (nI k), .int (nI i), .int (nI i), .float 0] [] (ev_mk h K1 L') = _
    rw [e_Measure_markNear_16, if_neg (fun z => absurd ((q_lt (by omega) (by omega)).mp z) (by omega)), show nI i + 1 = nI (i + 1) from q_add i 1]
  · intro K ⟨p1, p2, p3⟩
    refine ⟨K, ?_, p1, p2, fun i j hi' hj' => ?_⟩
    · show ev_at (d + 6) M_Measure_markNear 2 [.ref 114, .ref 17, .int (nI k), .int (nI (aBk A).1), .float 0, .float 0] [] (ev_mk h K L') = _
      rw [e_Measure_markNear_2, (hi.bk p1).1.1, if_neg (fun z => absurd ((q_lt (by omega) (by omega)).mp z) (by omega))]
    · by_cases e : i = j
      · have := (p1.2.2 i (by omega)).trans (hi.2.2.2.2.2.2.2.2 i (by omega))
        rw [← e, show 8 * i + i = 9 * i by omega, this, show nrA A k i i = false by unfold nrA; simp]; rfl
      · by_cases z : j < i
        · exact (p3 i j hi' z).1
        · rw [nrA_sym]; exact (p3 j i hj' (by omega)).2
theorem c_stepFrom (d : Nat) {n : Nat} {nr : Nat → Nat → Bool} {D : Nat → Nat} (hn : n ≤ 8) (hW : J 5 3 = nI n) (h8 : ∀ i, i < n → J 128 i = nD (D i)) (hD : ∀ i, i < n → D i ≤ 100) (h7 : ∀ i j, i < n → j < n → J 127 (8 * i + j) = fl (nr i j)) {w t : Nat} (hw : w < n) (ht : t < 100) {L' : Nat → Nat → Int64} : ev_do (d + 2) M_Measure_stepFrom [.ref 114, .int (nI w), .int (nI t)] (ev_mk h J L') = ev_ri (enc (fs (fun j => decide (D j = t) && nr w j) n)) (ev_mk h J L') := by
  rw [e_Measure_stepFrom_0, c_Book_has d hW, k_I, k_1, k_2, k_3, (blw_iff (by omega)).mpr ⟨w, hw, rfl⟩, if_neg (show ¬ fl true = 0 by decide), show (.int 0 : Value) = .int (nI 0) from rfl]
  refine lpE (σ := Unit) (F := fun j _ => ev_at (d + 1) M_Measure_stepFrom 15 [.ref 114, .int (nI w), .int (nI t), .int (nI j)] [] (ev_mk h J L')) (fun j _ => fs (fun j => decide (D j = t) && nr w j) j = none) (fun o => o = ev_ri (enc (fs (fun j => decide (D j = t) && nr w j) n)) (ev_mk h J L')) n ?_ ?_ 0 (Nat.zero_le _) () rfl
  · intro j _ hj p
    have a1 := nD_eq (hD j hj) ht
    have e8 : nI w * 8 + nI j = nI (8 * w + j) := by rw [show (8 : Int32) = nI 8 from rfl, q_mul, q_add, Nat.mul_comm]
    show (∃ s' : Unit, ev_at (d + 1) M_Measure_stepFrom 15 [.ref 114, .int (nI w), .int (nI t), .int (nI j)] [] (ev_mk h J L') = ev_at (d + 1) M_Measure_stepFrom 15 [.ref 114, .int (nI w), .int (nI t), .int (nI (j + 1))] [] (ev_mk h J L') ∧ _) ∨ ev_at (d + 1) M_Measure_stepFrom 15 [.ref 114, .int (nI w), .int (nI t), .int (nI j)] [] (ev_mk h J L') = _
    rw [e_Measure_stepFrom_15, hW, if_pos ((q_lt (by omega) (by omega)).mpr hj), q_in (by omega), if_pos (by simp <;> omega), q_cl (by omega), h8 j hj, show nI j + 1 = nI (j + 1) from q_add j 1]
    by_cases e : D j = t
    · rw [if_pos (a1.mpr e), e8, q_in (by omega), if_pos (by simp <;> omega), q_cl (by omega), h7 w j hw hj]
      cases hr : nr w j with
      | false => exact Or.inl ⟨(), by rw [if_pos (show fl false = 0 from rfl)], fs_next p (by rw [hr, Bool.and_false])⟩
      | true =>
        refine Or.inr ?_
        rw [if_neg (by decide), fs_hit p (by rw [hr, Bool.and_true]; exact decide_eq_true e) n hj]; rfl
    · rw [if_neg (fun z => e (a1.mp z))]
      exact Or.inl ⟨(), rfl, fs_next p (by rw [decide_eq_false e, Bool.false_and])⟩
  · intro _ p
    show ev_at (d + 1) M_Measure_stepFrom 15 [.ref 114, .int (nI w), .int (nI t), .int (nI n)] [] (ev_mk h J L') = _
    rw [e_Measure_stepFrom_15, hW, if_neg (fun z => absurd ((q_lt (by omega) (by omega)).mp z) (by omega)), p]; rfl
theorem dl_100 (n : Nat) (nr : Nat → Nat → Bool) (g : Nat) {t : Nat} (ht : t ≤ 100) (i : Nat) : dl n nr g t i ≤ 100 := by have := dl_le n nr g t i; omega
theorem c_stepsTo (d : Nat) (hw : wfA A) (hi : invC I L A) (f : frC I J) {k g : Nat} (hk : k < 9) (hg : g < (aBk A).1) {L' : Nat → Nat → Int64} : ∃ K, ev_do (d + 8) M_Measure_stepsTo [.ref 114, .ref 17, .int (nI g), .int (nI k)] (ev_mk h J L') = ev_rn (ev_mk h K L') ∧ frC I K ∧ K 3 = J 3 ∧ (∀ i j, i < (aBk A).1 → j < (aBk A).1 → K 127 (8 * i + j) = fl (nrA A k i j)) ∧ ∀ i, i < (aBk A).1 → K 128 i = nD (dl (aBk A).1 (nrA A k) g 8 i) := by
  have hW := hw.2.2.1.1
  obtain ⟨K1, e1, f1, x1, n1⟩ := c_markNear (h := h) (L' := L') d hw hi f hk
  obtain ⟨K2, e2, x2, n2⟩ := c_fill8 (h := h) (I := K1) (L := L') (x := -1) (k := 128) (d + 6) (by omega)
  have f2 : frC I K2 := f1.x x2 (by simp [scC])
  rw [e_Measure_stepsTo_0, e1, k_V, k_1, k_2, k_3, e2, k_V, k_1, k_2, k_3, q_in (by omega), if_pos (by simp <;> omega), q_cl (by omega), show (.int 0 : Value) = .int (nI 0) from rfl]
  refine lpX (F := fun t K => ev_at (d + 7) M_Measure_stepsTo 24 [.ref 114, .float 0, .float 0, .float 0, .int (nI t), .float 0] [] (ev_mk h K L')) (fun t K => frC I K ∧ K 3 = J 3 ∧ K 127 = K1 127 ∧ ∀ i, i < (aBk A).1 → K 128 i = nD (dl (aBk A).1 (nrA A k) g t i)) (res := fun K => ev_rn (ev_mk h K L')) 8 ?_ ?_ 0 (Nat.zero_le _) (ev_up K2 128 g 0) ⟨f2.up (by unfold scC; omega) (by omega) (by omega), by rw [u_cf (by omega), x2 3 (by simp)]; exact x1, by rw [u_cf (by omega), x2 127 (by simp)], fun i hi' => ?_⟩
  · intro t K ht ⟨p1, p2, p3, p4⟩
    refine Or.inl ?_
    show ∃ s', ev_at (d + 7) M_Measure_stepsTo 24 [.ref 114, .float 0, .float 0, .float 0, .int (nI t), .float 0] [] (ev_mk h K L') = ev_at (d + 7) M_Measure_stepsTo 24 [.ref 114, .float 0, .float 0, .float 0, .int (nI (t + 1)), .float 0] [] (ev_mk h s' L') ∧ _
    rw [e_Measure_stepsTo_24, if_pos (show nI t < 8 from (q_lt (b := 8) (by omega) (by omega)).mpr ht), show (.int 0 : Value) = .int (nI 0) from rfl]
    obtain ⟨K3, e3, q1, q2, q3, q4⟩ := lpF (F := fun x K => ev_at (d + 7) M_Measure_stepsTo 34 [.ref 114, .float 0, .float 0, .float 0, .int (nI t), .int (nI x)] [] (ev_mk h K L')) (fun x K => frC I K ∧ K 3 = J 3 ∧ K 127 = K1 127 ∧ ∀ i, i < (aBk A).1 → K 128 i = nD (if i < x then dl (aBk A).1 (nrA A k) g (t + 1) i else dl (aBk A).1 (nrA A k) g t i)) (aBk A).1 (fun x K hx ⟨p1, p2, p3, p4⟩ => by
      have hD : ∀ i, i < (aBk A).1 → (if i < x then dl (aBk A).1 (nrA A k) g (t + 1) i else dl (aBk A).1 (nrA A k) g t i) ≤ 100 := fun i _ => by
        have h1 := dl_100 (aBk A).1 (nrA A k) g (t := t) (by omega) i
        have h2 := dl_100 (aBk A).1 (nrA A k) g (t := t + 1) (by omega) i
        split <;> assumption
      have hs := c_stepFrom (h := h) (L' := L') (J := K) (d + 5) (n := (aBk A).1) (nr := nrA A k) hW (hi.bk p1).1.1 p4 hD (fun i j h1 h2 => by rw [p3]; exact n1 i j h1 h2) hx (t := t) (by omega)
      have hfs : fs (fun j => decide ((if j < x then dl (aBk A).1 (nrA A k) g (t + 1) j else dl (aBk A).1 (nrA A k) g t j) = t) && nrA A k x j) (aBk A).1 = fs (fun j => decide (dl (aBk A).1 (nrA A k) g t j = t) && nrA A k x j) (aBk A).1 := by
        refine fs_congr (fun j hj => ?_)
        show (decide _ && _) = (decide _ && _)
        congr 1
        refine decide_eq_decide.mpr ?_
        by_cases e : j < x
        · rw [if_pos e, dl_s]; split <;> omega
        · rw [if_neg e]
      rw [hfs] at hs
      have p5 := p4 x hx
      rw [if_neg (by omega)] at p5
      have a1 := nD_m1 (dl_100 (aBk A).1 (nrA A k) g (t := t) (by omega) x)
      have c34 : ∀ K' : Nat → Nat → Int32, (∀ i, i < (aBk A).1 → i ≠ x → K' 128 i = K 128 i) → K' 128 x = nD (dl (aBk A).1 (nrA A k) g (t + 1) x) → ∀ i, i < (aBk A).1 → K' 128 i = nD (if i < x + 1 then dl (aBk A).1 (nrA A k) g (t + 1) i else dl (aBk A).1 (nrA A k) g t i) := by
        intro K' h1 h2 i hi'
        by_cases e : i = x
        · rw [e, if_pos (by omega)]; exact h2
        · rw [h1 i hi' e, p4 i hi']
          by_cases z : i < x
          · rw [if_pos z, if_pos (by omega)]
          · rw [if_neg z, if_neg (by omega)]
      show ∃ s', ev_at (d + 7) M_Measure_stepsTo 34 [.ref 114, .float 0, .float 0, .float 0, .int (nI t), .int (nI x)] [] (ev_mk h K L') = ev_at (d + 7) M_Measure_stepsTo 34 [.ref 114, .float 0, .float 0, .float 0, .int (nI t), .int (nI (x + 1))] [] (ev_mk h s' L') ∧ _
      rw [e_Measure_stepsTo_34, (hi.bk p1).1.1, if_pos ((q_lt (by omega) (by omega)).mpr hx), q_in (by omega), if_pos (by simp <;> omega), q_cl (by omega), p5, show nI x + 1 = nI (x + 1) from q_add x 1]
      by_cases e : dl (aBk A).1 (nrA A k) g t x = 100
      · rw [if_pos (a1.mpr e), hs, k_I, k_1, k_2, k_3]
        cases hf : fs (fun j => decide (dl (aBk A).1 (nrA A k) g t j = t) && nrA A k x j) (aBk A).1 with
        | none =>
          rw [if_pos (show enc none = -1 from rfl)]
          refine ⟨K, rfl, p1, p2, p3, c34 K (fun _ _ _ => rfl) ?_⟩
          rw [p5, dl_s, if_neg (fun z => by rw [hf] at z; simp at z)]
        | some j =>
          have hj := (fs_some hf).1
          rw [show enc (some j) = nI j from rfl, if_neg (show ¬ nI j = -1 from fun z => absurd (show nI j < 0 by rw [z]; decide) (q_nn (by omega))), if_pos (by simp <;> omega), show nI t + 1 = nI (t + 1) from q_add t 1]
          refine ⟨_, rfl, p1.up (by unfold scC; omega) (by omega) (by omega), by rw [u_cf (by omega)]; exact p2, by rw [u_cf (by omega)]; exact p3, c34 _ (fun i _ z => u_j z) ?_⟩
          rw [u_at, dl_s, if_pos ⟨e, by rw [hf]; rfl⟩, nD, if_neg (by omega)]
      · rw [if_neg (fun z => e (a1.mp z))]
        refine ⟨K, rfl, p1, p2, p3, c34 K (fun _ _ _ => rfl) ?_⟩
        rw [p5, dl_s, if_neg (fun z => e z.1)]) K ⟨p1, p2, p3, fun i hi' => by rw [if_neg (by omega)]; exact p4 i hi'⟩
    refine ⟨K3, e3.trans ?_, q1, q2, q3, fun i hi' => by have := q4 i hi'; rw [if_pos hi'] at this; exact this⟩
    show ev_at (d + 7) M_Measure_stepsTo 34 [.ref 114, .float 0, .float 0, .float 0, .int (nI t), .int (nI (aBk A).1)] [] (ev_mk h K3 L') = _
    rw [e_Measure_stepsTo_34, (hi.bk q1).1.1, if_neg (fun z => absurd ((q_lt (by omega) (by omega)).mp z) (by omega)), show nI t + 1 = nI (t + 1) from q_add t 1]
  · intro K ⟨p1, p2, p3, p4⟩
    refine ⟨K, ?_, p1, p2, fun i j h1 h2 => by rw [p3]; exact n1 i j h1 h2, p4⟩
    show ev_at (d + 7) M_Measure_stepsTo 24 [.ref 114, .float 0, .float 0, .float 0, .int (nI 8), .float 0] [] (ev_mk h K L') = _
    rw [e_Measure_stepsTo_24, if_neg (by decide)]
  · show ev_up K2 128 g 0 128 i = nD (if i = g then 0 else 100)
    by_cases e : i = g
    · rw [if_pos e, e, u_at]; rfl
    · rw [if_neg e, u_j e, n2 i (by omega)]; rfl
/-- the words on the way -/
def wlk (n : Nat) (nr : Nat → Nat → Bool) (D : Nat → Nat) : Nat → Nat → Nat × (Nat → Int64) → Nat × (Nat → Int64)
  | 0, _, r => r
  | t + 1, w, r => match fs (fun j => decide (D j = t) && nr w j) n with
    | some j => wlk n nr D t j (snoc r (nI j).toInt64)
    | none => r
theorem wlk_len {n : Nat} {nr : Nat → Nat → Bool} {g : Nat} : ∀ {t w : Nat} {r : Nat × (Nat → Int64)}, dl n nr g 8 w = t → t < 9 → (wlk n nr (dl n nr g 8) t w r).1 = r.1 + t
  | 0, w, r, h, ht => rfl
  | t + 1, w, r, h, ht => by
    obtain ⟨j, hj, e1, e2⟩ := dl_pre n nr g (t := 8) (by omega) h (by omega)
    rw [wlk]
    cases hf : fs (fun j => decide (dl n nr g 8 j = t) && nr w j) n with
    | none =>
      have := fs_none.mp hf j hj
      rw [e1, e2] at this; simp at this
    | some j' =>
      have h2 := fs_some hf
      rw [Bool.and_eq_true, decide_eq_true_iff] at h2
      show (wlk n nr (dl n nr g 8) t j' _).1 = _
      rw [wlk_len h2.2.1 (by omega)]
      show r.1 + 1 + t = _
      omega
theorem fs_is {n : Nat} {nr : Nat → Nat → Bool} {g t w : Nat} (h : dl n nr g 8 w = t + 1) (ht : t + 1 < 9) : ∃ j, fs (fun j => decide (dl n nr g 8 j = t) && nr w j) n = some j ∧ j < n ∧ dl n nr g 8 j = t ∧ nr w j = true := by
  obtain ⟨j, hj, e1, e2⟩ := dl_pre n nr g (t := 8) (by omega) h (by omega)
  cases hf : fs (fun j => decide (dl n nr g 8 j = t) && nr w j) n with
  | none =>
    have := fs_none.mp hf j hj
    rw [e1, e2] at this; simp at this
  | some j' =>
    have h2 := fs_some hf
    rw [Bool.and_eq_true, decide_eq_true_iff] at h2
    exact ⟨j', rfl, h2.1, h2.2.1, h2.2.2⟩
theorem c_walk (d : Nat) (hw : wfA A) (hi : invC I L A) {k g : Nat} (hg : g < (aBk A).1) : ∀ (t w : Nat) (r : Nat × (Nat → Int64)) (J : Nat → Nat → Int32) (L' : Nat → Nat → Int64), frC I J → (∀ i j, i < (aBk A).1 → j < (aBk A).1 → J 127 (8 * i + j) = fl (nrA A k i j)) → (∀ i, i < (aBk A).1 → J 128 i = nD (dl (aBk A).1 (nrA A k) g 8 i)) → w < (aBk A).1 → dl (aBk A).1 (nrA A k) g 8 w = t → r.1 + t ≤ 9 → t < 9 → rwC J L' r → ∃ p : sIL, ev_at (d + 2) M_SL_chain 93 [.ref 0, .float 0, .float 0, .float 0, .float 0, .int (nI w), .int (nI t - 1)] [] (ev_mk h J L') = ev_ri (nI (r.1 + t)) (ev_mk h p.1 p.2) ∧ frC I p.1 ∧ rwC p.1 p.2 (wlk (aBk A).1 (nrA A k) (dl (aBk A).1 (nrA A k) g 8) t w r) ∧ ∀ a, a ≠ 4 → p.2 a = L' a := by
  have hW := hw.2.2.1.1
  intro t
  induction t with
  | zero =>
    intro w r J L' f h7 h8 hwn hd hr ht rw'
    refine ⟨(J, L'), ?_, f, rw', fun _ _ => rfl⟩
    rw [e_SL_chain_93, if_pos (by decide), rw'.1]; rfl
  | succ t ih =>
    intro w r J L' f h7 h8 hwn hd hr ht rw'
    obtain ⟨j, hj, h1, h2, h3⟩ := fs_is hd ht
    have hs := c_stepFrom (h := h) (L' := L') (J := J) d (n := (aBk A).1) (nr := nrA A k) hW (hi.bk f).1.1 h8 (fun i _ => dl_100 _ _ g (t := 8) (by omega) i) h7 hwn (t := t) (by omega)
    obtain ⟨K, L1, e1, x1, l1, r1⟩ := t_tell (h := h) (I := J) (L := L') (x := (nI j).toInt64) (d + 1) rw' (by omega)
    obtain ⟨p, e2, f2, r2, l2⟩ := ih j (snoc r (nI j).toInt64) K L1 (f.x x1 (by simp [scC])) (fun i j h1 h2 => by rw [x1 127 (by simp)]; exact h7 i j h1 h2) (fun i h1 => by rw [x1 128 (by simp)]; exact h8 i h1) h1 h2 (by show r.1 + 1 + t ≤ 9; omega) (by omega) r1
    refine ⟨p, ?_, f2, ?_, fun a ha => (l2 a ha).trans (l1 a ha)⟩
    · rw [e_SL_chain_93, show nI (t + 1) - 1 = nI t from q_sub (a := t + 1) (b := 1) (by omega), if_neg (q_nn (by omega)), hs, k_I, k_1, k_2, k_3, hj, show enc (some j) = nI j from rfl, e1, k_V, k_1, k_2, k_3, show nI t + -1 = nI t - 1 by rw [Int32.sub_eq_add_neg], e2]
      show ev_ri (nI (r.1 + 1 + t)) _ = _
      rw [show r.1 + 1 + t = r.1 + (t + 1) by omega]
    · rw [wlk, hj]; exact r2
end OY

/-! words, both. -/
section WE
variable {h : Bool × Nat × Nat} {d : Nat} {I J K : Nat → Nat → Int32} {L : Nat → Nat → Int64} {A : aP}
theorem fo_bad {f m sz e : Nat} {b : Bool} (hb : (b && decide (f = e)) = false) (hf : f ≤ m) : (if m < sz ∧ ¬ ((b && decide (f = e)) = false ∧ f < m) then -1 - nI m else if (b && decide (f = e)) = true then 0 else -1 - nI f) = -1 - nI f := by
  rw [hb]
  by_cases z : m < sz ∧ ¬ (false = false ∧ f < m)
  · have : f = m := by
      by_cases y : f < m
      · exact absurd ⟨rfl, y⟩ z.2
      · omega
    rw [if_pos z, this]
  · rw [if_neg z, if_neg (by decide)]
theorem op_words (hi : inv I L) : okI h d M_SL_words M_Mo_words [] I L := by
  refine ok_of (fun A hw => ?_) hi
  have h8 := hw.1.1
  have h2 := hw.1.2
  have hW := hw.2.2.1.1
  have b0 : ∀ (h : Bool × Nat × Nat) I L, invM I L A → ∃ K0, ev_do (d + 100) M_Mo_words [.ref 139] (ev_mk h I L) = ev_at (d + 99) M_Mo_words 29 [.ref 139, .int (nI (aTx A).1), .int 1, .int (fl (decide (0 < (aTx A).1))), .float 0, .float 0, .float 0] [] (ev_mk h K0 L) ∧ rdM K0 (aTx A).2 (min 79 (aTx A).1) 0 ∧ K0 139 17 = 0 ∧ exc [139] I K0 ∧ K0 139 10 = 0 ∧ ∀ j, (j = 1 ∨ j = 3 ∨ j = 4 ∨ j = 20 ∨ j = 26 ∨ j = 35) → K0 139 j = I 139 j := by
    intro h I L hi
    have tm := hi.th.1
    refine ⟨ev_up (bgM (ev_up I 139 0 0) 79 (aTx A).1) 139 17 0, ?_, (bg_rd tm h8 h2).w (by omega) (by omega), u_at _ _ _ _, ((exc.rf.up (by simp)).tr (bg_ex _ _ _)).up (by simp), (u_j (by omega)).trans bg_10, fun j hj => by rw [u_j (by omega), bg_j (by omega), u_j (by omega)]⟩
    rw [e_Mo_words_0, show (.int 79 : Value) = .int (nI 79) from rfl, c_begins (d + 98) (by omega) h8 tm.1, k_I, k_1, k_2, k_3]
    by_cases z : 0 < (aTx A).1
    · rw [if_pos (show (0 : Int32) < nI (aTx A).1 from (q_lt (a := 0) (by omega) (by omega)).mpr z), decide_eq_true z]; rfl
    · rw [if_neg (show ¬ (0 : Int32) < nI (aTx A).1 from fun y => z ((q_lt (a := 0) (by omega) (by omega)).mp y)), decide_eq_false z]; rfl
  by_cases hz : (aTx A).1 = 0
  · refine ⟨0, nT A, nT_wf hw, fun I L hi => ⟨I, L, ?_, ?_, fun _ _ => rfl, rfl⟩, fun I L hi => ?_⟩
    · rw [e_SL_words_0, hi.1.1, hz, if_pos (show nI 0 = 0 from rfl)]
    · have := hi.nT
      rw [show ev_up I 1 1 0 = I by rw [show (0 : Int32) = I 1 1 by rw [hi.1.1, hz]; rfl, u_id]] at this
      exact this
    · obtain ⟨K0, e0, r0, z0, x0, k0, n0⟩ := b0 h I L hi
      rw [hz] at e0 r0
      refine ⟨K0, L, ?_, hi.tx (fun a ha => x0 a (by unfold scM at ha; simp <;> omega)) n0 ⟨k0, fun j hj => absurd hj (Nat.not_lt_zero _)⟩, fun a ha => x0 a (by simp <;> omega), rfl⟩
      rw [e0, show fl (decide (0 < 0)) = 0 from rfl, e_Mo_words_29, if_pos rfl, show (.int 79 : Value) = .int (nI 79) from rfl, show (.int 1 : Value) = .int (fl true) from rfl, c_faultOf (d + 98) (by omega) (by omega) r0, k_I, k_1, k_2, k_3, if_neg (c := 79 < 0 ∧ _) (fun z => absurd z.1 (by omega)), if_pos (c := (true && decide (0 = min 79 0)) = true) (by decide), if_neg (show ¬ (0 : Int32) < 0 by decide), e_Mo_words_81, z0, if_neg (by decide), if_neg (by decide)]
  · have hz1 : decide (0 < (aTx A).1) = true := decide_eq_true (by omega)
    rw [hz1] at b0
    have nz : ∀ I L, invC I L A → ¬ I 1 1 = 0 := fun I L hi z => hz (by rw [hi.1.1] at z; exact (q_eq (b := 0) (by omega) (by omega)).mp z)
    have bad : ∀ f, f ≤ min 79 (aTx A).1 → (∀ (h : Bool × Nat × Nat) I L, invC I L A → ev_do (d + 99) M_Book_faultIn [.ref 5, .ref 1] (ev_mk h I L) = ev_ri (nI f) (ev_mk h I L)) → (∀ (h : Bool × Nat × Nat) I L, invM I L A → ∃ K, ev_do (d + 100) M_Mo_words [.ref 139] (ev_mk h I L) = ev_ri (-1 - nI f) (ev_mk h K L) ∧ exc [139, 146, 147, 148] I K ∧ K 139 10 = 0 ∧ ∀ j, (j = 1 ∨ j = 3 ∨ j = 4 ∨ j = 20 ∨ j = 26 ∨ j = 35) → K 139 j = I 139 j) → ∃ v A', wfA A' ∧ hfC h d M_SL_words [] A A' v ∧ hfM h d M_Mo_words [] A A' v := by
      intro f hf hC hM
      refine ⟨-1 - nI f, nT A, nT_wf hw, fun I L hi => ⟨ev_up I 1 1 0, L, ?_, hi.nT, fun a ha => u_cf (by omega), rfl⟩, fun I L hi => ?_⟩
      · rw [e_SL_words_0, if_neg (nz I L hi), hC h I L hi, k_I, k_1, k_2, k_3, if_neg (m1_ne (by omega)), e_SL_words_54, if_neg (m1_ne (by omega))]
      · obtain ⟨K, e1, x1, k1, n1⟩ := hM h I L hi
        exact ⟨K, L, e1, hi.tx (fun a ha => x1 a (by unfold scM at ha; simp <;> omega)) n1 ⟨k1, fun j hj => absurd hj (Nat.not_lt_zero _)⟩, fun a ha => x1 a (by simp <;> omega), rfl⟩
    obtain ⟨i, hi8, hg, hend⟩ := liL_or (aTx A).2 (min 79 (aTx A).1) (aBk A).1
    rcases hend with ⟨f, hfe, hf⟩ | he
    · refine bad f hfe (fun h I L hi => (c_Book_faultIn (d + 97) h8 hi.1 h2 hi.2.2.1.1.1 hW hi8 hg).1 f hf) (fun h I L hi => ?_)
      obtain ⟨K0, e0, r0, z0, x0, k0, n0⟩ := b0 h I L hi
      have hW0 : K0 139 3 = nI (aBk A).1 := (n0 3 (by omega)).trans hi.2.2.1.1
      obtain ⟨K, b, e1, hb, r1, x1, n1⟩ := (c_linesE (h := h) (L := L) (sz := (aTx A).1) (d + 93) r0 hW0 hW z0 hi8 hg).1 f hfe hf
      refine ⟨K, ?_, (x0.mono (by simp)).tr x1, by rw [n1 10 (by omega) (by omega)]; exact k0, fun j hj => by rw [n1 j (by omega) (by omega)]; exact n0 j hj⟩
      rw [e0]
      refine e1.trans ?_
      rw [e_Mo_words_29, if_pos rfl, show (.int 79 : Value) = .int (nI 79) from rfl, c_faultOf (d + 98) (by omega) (by omega) r1, k_I, k_1, k_2, k_3, fo_bad hb (by omega), if_pos (m1_neg (by omega))]
    · by_cases h6 : 79 < (aTx A).1
      · have em : min 79 (aTx A).1 = 79 := by omega
        refine bad 79 (by omega) (fun h I L hi => ?_) (fun h I L hi => ?_)
        · have := (c_Book_faultIn (h := h) (L := L) (d + 97) h8 hi.1 h2 hi.2.2.1.1.1 hW hi8 hg).2 he
          rw [if_pos h6, em] at this
          exact this
        · obtain ⟨K0, e0, r0, z0, x0, k0, n0⟩ := b0 h I L hi
          have hW0 : K0 139 3 = nI (aBk A).1 := (n0 3 (by omega)).trans hi.2.2.1.1
          obtain ⟨K, e1, r1, x1, n1, _, _⟩ := (c_linesE (h := h) (L := L) (sz := (aTx A).1) (d + 93) r0 hW0 hW z0 hi8 hg).2 he
          refine ⟨K, ?_, (x0.mono (by simp)).tr x1, by rw [n1 10 (by omega) (by omega)]; exact k0, fun j hj => by rw [n1 j (by omega) (by omega)]; exact n0 j hj⟩
          rw [e0]
          refine e1.trans ?_
          rw [e_Mo_words_29, if_pos rfl, show (.int 79 : Value) = .int (nI 79) from rfl, c_faultOf (d + 98) (by omega) (by omega) r1, k_I, k_1, k_2, k_3, decide_eq_true (show min 79 (aTx A).1 = min 79 (aTx A).1 from rfl), Bool.true_and, if_pos (c := 79 < (aTx A).1 ∧ ¬ (true = false ∧ min 79 (aTx A).1 < 79)) ⟨h6, fun z => by cases z.1⟩, if_pos (m1_neg (by omega))]
      · have em : min 79 (aTx A).1 = (aTx A).1 := by omega
        rw [em] at hg he
        have hWi := he.1
        have hsd : ∀ i', i' < i + 1 → (aBk A).1 + i' < 8 ∧ sdL (aTx A).2 (psL (aTx A).2 (aTx A).1 i') (rnL (aTx A).2 (aTx A).1 (psL (aTx A).2 (aTx A).1 i')) = true := by
          intro i' hi'
          by_cases z : i' = i
          · rw [z]; exact ⟨he.1, he.2.1⟩
          · have := hg i' (by omega); exact ⟨this.1, this.2.1⟩
        refine ⟨nI (i + 1), wrA A (i + 1), wrA_wf hw (by omega) (fun i' hi' => (hsd i' hi').2), fun I L hi => ?_, fun I L hi => ?_⟩
        · have e0 := (c_Book_faultIn (h := h) (L := L) (d + 97) h8 hi.1 h2 hi.2.2.1.1.1 hW hi8 (by rw [em]; exact hg)).2 (by rw [em]; exact he)
          rw [if_neg h6] at e0
          have l0 : leC I A (aTx A).2 (aTx A).1 0 := by
            have c : ∀ w, ¬ ((aBk A).1 ≤ w ∧ w < (aBk A).1 + 0) := fun w => by omega
            have q1 : ∀ w, lnA A (aTx A).2 (aTx A).1 0 w = (aBk A).2.1 w := fun w => if_neg (c w)
            have q2 : ∀ w, lgA A (aTx A).2 (aTx A).1 0 w = (aBk A).2.2 w := fun w => funext fun j => if_neg (c w)
            refine ⟨hi.2.2.1.1.1, fun w hw' => ?_, fun w hw' => ?_⟩
            · have b := hi.2.2.1.1.2.2 w hw'
              rw [q1, q2, show sAd A (aTx A).2 (aTx A).1 0 w = aS A w from if_neg (c w)]
              exact ⟨b.1, fun j hj => (b.2.2 j hj).1, (hi.2.2.2.1.1 w hw').1⟩
            · rw [q1, q2]; exact hi.2.2.1.2 w hw'
          obtain ⟨K1, e1, x1, l1⟩ := c_takeLines (h := h) (L := L) (d + 95) hw h8 h2 hi.1 l0 hg he
          obtain ⟨K2, e2, x2, k2, k3, k4⟩ := c_forgetAll (h := h) (I := K1) (L := L) (d + 98)
          refine ⟨ev_up K2 1 1 0, L, ?_, hi.wd (by omega) hw (fun a ha => ?_) (u_at _ _ _ _) ?_ ?_ ?_ (fun i hi => ?_), fun a ha => ?_, rfl⟩
          · rw [e_SL_words_0, if_neg (nz I L hi), e0, k_I, k_1, k_2, k_3, if_pos rfl, e1, k_I, k_1, k_2, k_3, e2, k_V, k_1, k_2, k_3, e_SL_words_54, if_pos rfl]
          · simp only [List.mem_cons, not_or] at ha
            rw [u_cf ha.1, x2 a (by simp; exact ⟨ha.2.1, ha.2.2.1⟩), x1 a (by simp only [aX, List.mem_cons, not_or]; exact ha.2.2.2)]
          · refine ⟨?_, fun w hw' => ?_, fun w hw' => ?_⟩
            · rw [u_c (by omega), x2 5 (by simp)]; exact l1.1
            · have b := l1.2.1 w hw'
              rw [u_c (by omega), x2 15 (by simp), u_cf (a := 7 + w) (by omega), x2 (7 + w) (by simp <;> omega), u_c (by omega), x2 18 (by simp)]
              exact b
            · rw [u_c (by omega), x2 16 (by simp)]; exact l1.2.2 w hw'
          · rw [u_c (by omega), k2, x1 25 (by simp)]
          · rw [u_c (by omega)]; exact k3
          · rw [u_c (by omega)]; exact k4 i hi
          · rw [u_cf (by omega), x2 a (by simp <;> omega), x1 a (by simp <;> omega)]
        · obtain ⟨K0, e0, r0, z0, x0, k0, n0⟩ := b0 h I L hi
          rw [em] at r0
          have hW0 : K0 139 3 = nI (aBk A).1 := (n0 3 (by omega)).trans hi.2.2.1.1
          obtain ⟨K1, e1, r1, x1, n1, g1, l1⟩ := (c_linesE (h := h) (L := L) (sz := (aTx A).1) (d + 93) r0 hW0 hW z0 hi8 hg).2 he
          have x01 : exc [139, 146, 147, 148] I K1 := (x0.mono (by simp)).tr x1
          have n01 : ∀ j, (j = 1 ∨ j = 3 ∨ j = 4 ∨ j = 20 ∨ j = 26 ∨ j = 35) → K1 139 j = I 139 j := fun j hj => by rw [n1 j (by omega) (by omega)]; exact n0 j hj
          have l0 : leM K1 A (aTx A).2 (aTx A).1 0 := by
            have c : ∀ w, ¬ ((aBk A).1 ≤ w ∧ w < (aBk A).1 + 0) := fun w => by omega
            have q1 : ∀ w, lnA A (aTx A).2 (aTx A).1 0 w = (aBk A).2.1 w := fun w => if_neg (c w)
            have q2 : ∀ w, lgA A (aTx A).2 (aTx A).1 0 w = (aBk A).2.2 w := fun w => funext fun j => if_neg (c w)
            refine ⟨(n01 3 (by omega)).trans hi.2.2.1.1, fun w hw' => ?_, fun j hj => ?_⟩
            · have b := hi.2.2.1.2.2 w hw'
              rw [q1, q2, x01 142 (by simp), x01 141 (by simp)]
              exact ⟨b.1, fun j hj => (b.2.2 j hj).1⟩
            · rw [show sAd A (aTx A).2 (aTx A).1 0 j = aS A j from if_neg (c j), x01 143 (by simp)]
              exact hi.2.2.2.1.at hj
          obtain ⟨K2, e2, x2, n2, l2⟩ := c_addsM (h := h) (L := L) (d + 99) hw (fun i' hi' => (hsd i' hi').1) l1 g1 l0
          have g2 : K2 139 17 = nI (i + 1) := (n2 17 (by omega)).trans g1
          refine ⟨ev_up (ev_up K2 139 26 0) 139 4 (K2 139 4 + 1), L, ?_, hi.wd (by omega) (by omega) hw (fun a ha h1 h3 h4 => ?_) ?_ ?_ ?_ (fun j hj => ?_) ?_, fun a ha => ?_, rfl⟩
          · rw [e0]
            refine e1.trans ?_
            rw [e_Mo_words_29, if_pos rfl, show (.int 79 : Value) = .int (nI 79) from rfl, c_faultOf (d + 98) (by omega) (by omega) r1, k_I, k_1, k_2, k_3, decide_eq_true (show (aTx A).1 = (aTx A).1 from rfl), Bool.true_and, if_neg (c := 79 < (aTx A).1 ∧ ¬ (true = false ∧ (aTx A).1 < 79)) (fun z => h6 z.1), if_pos rfl, if_neg (show ¬ (0 : Int32) < 0 by decide)]
            refine e2.trans ?_
            rw [e_Mo_words_81, g2, if_neg (fun z => absurd ((q_lt (by omega) (by omega)).mp z) (by omega)), if_pos (show (0 : Int32) < nI (i + 1) from (q_lt (a := 0) (by omega) (by omega)).mpr (by omega))]
          · have h9 : a ≠ 139 := fun z => ha (by rw [z]; unfold scM; omega)
            unfold scM at ha
            rw [u_cf h9, u_cf h9, x2 a (by simp <;> omega), x01 a (by simp <;> omega)]
          · rw [u_j (by omega), u_j (by omega), n2 10 (by omega), n1 10 (by omega) (by omega)]; exact k0
          · rw [u_j (by omega), u_at]
          · rw [u_at, n2 4 (by omega), n01 4 (by omega)]
          · rw [u_j (by omega), u_j (by omega), n2 j (by omega), n01 j (by omega)]
          · refine ⟨?_, fun w hw' => ?_, fun j hj => ?_⟩
            · rw [u_j (by omega), u_j (by omega)]; exact l2.1
            · rw [u_c (by omega), u_c (by omega), u_cf (a := 141) (by omega), u_cf (a := 141) (by omega)]; exact l2.2.1 w hw'
            · rw [u_c (by omega), u_c (by omega)]; exact l2.2.2 j hj
          · rw [u_cf (by omega), u_cf (by omega), x2 a (by simp <;> omega), x01 a (by simp <;> omega)]
end WE

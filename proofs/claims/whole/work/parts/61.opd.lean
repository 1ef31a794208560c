/-! Calls: days, ahead, sheet, count. -/
section OD
variable {h : Bool × Nat × Nat} {d : Nat} {I I' : Nat → Nat → Int32} {L L' : Nat → Nat → Int64} {A : aP}
theorem fl_or (b : Bool) : fl b = nI (if b then 1 else 0) := by cases b <;> rfl
theorem bkM.th {W : Nat} {len : Nat → Nat} {lt : Nat → Nat → Nat} (hB : bkM I W len lt) (hx : ∀ a, (a = 141 ∨ a = 142) → I' a = I a) (h3 : I' 139 3 = I 139 3) : bkM I' W len lt := by
  unfold bkM
  rw [h3, hx 141 (by omega), hx 142 (by omega)]
  exact hB
theorem rlM2.th {T : Nat → Nat} {n : Nat} (hR : rlM2 I T n) (hx : I' 149 = I 149) (h3 : I' 139 20 = I 139 20) : rlM2 I' T n := by
  unfold rlM2 rlM
  rw [h3, hx]
  exact hR
/-- days of a picture -/
def pDy (A : aP) (k : Nat) : Nat → Int32 := dysS (aBk A).1 (aBk A).2.1 (aBk A).2.2 (aRl A).2 (aRl A).1 k (aS A)
def pDF (A : aP) (k : Nat) : Nat := dysF (aBk A).1 (aBk A).2.1 (aBk A).2.2 (aRl A).2 (aRl A).1 (aS A) k
def pDK (A : aP) (k : Nat) : Nat := dysK (aBk A).1 (aBk A).2.1 (aBk A).2.2 (aRl A).2 (aRl A).1 (aS A) k
theorem pDy_wf (hw : wfA A) (k : Nat) : wfS (aBk A).2.1 (pDy A k) := dysS_wf hw.2.2.2.1 k
theorem op_days {x : Int32} (hi : inv I L) : okI h d M_SL_days M_Mo_days [.int x] I L := by
  refine ok_of (fun A hw => ?_) hi
  have hW := hw.2.2.1.1
  have hT := hw.2.2.2.2.1
  cases hx : blw x 61 with
  | false =>
    refine ⟨-1, A, hw, fun I L hi => ⟨I, L, ?_, hi, fun _ _ => rfl, rfl⟩, fun I L hi => ⟨_, L, ?_, hi.th, th_lo, rfl⟩⟩
    · rw [e_SL_days_0, show (60 : Int32) = nI 60 from rfl, r_two (by omega), hx, if_neg (by decide)]
    · rw [e_Mo_days_0, c_in60, k_I, k_1, k_2, k_3, hx, if_pos (show fl false = 0 from rfl)]
  | true =>
    obtain ⟨k, hk, rfl⟩ := (blw_iff (by omega)).mp hx
    refine ⟨pDy A k 24, sRw (sUn (sS A (pDy A k)) (min ((aUn A).1 + 1) 15, psh (aS A) (aUn A).2)) (snoc (snoc nil0 (nI (pDF A k)).toInt64) (nI (pDK A k)).toInt64), (hw.st (pDy_wf hw k) (by omega) (psh_wf hw.2.2.2.1 hw.2.2.2.2.2.1.2)).rw (show 2 ≤ 9 by decide), fun I L hi => ?_, fun I L hi => ?_⟩
    · obtain ⟨I1, k1, e1, hk1, x1, u1⟩ := c_remember (h := h) (L := L) (d + 97) (Or.inl rfl : 17 = 17 ∨ 17 = 21) hi.2.2.2.2.2.1 hi.2.2.2.1
      obtain ⟨I2, e2, x2, r2, s2, f2, g2⟩ := c_passDays (h := h) (L := L) (k := k) (d + 93) (hi.2.2.1.ex x1 (by intro a ha; simp <;> omega)) (Or.inl rfl : 17 = 17 ∨ 17 = 21) (hi.2.2.2.1.ex x1 (by simp <;> omega) (by simp <;> omega) (by simp <;> omega) (by simp <;> omega)) hw.2.2.2.1 (hi.2.2.2.2.1.ex x1 (by rw [x1 101 (by simp <;> omega)]) (by simp <;> omega)) hT (by omega)
      obtain ⟨I3, L3, e3, x3, l3, t3⟩ := t_two (h := h) (I := I2) (L := L) (x := (nI (pDF A k)).toInt64) (y := (nI (pDK A k)).toInt64) (d + 97)
      have s3 : cSt 17 I3 (pDy A k) := s2.ex x3 (by simp) (by simp) (by simp) (by simp)
      refine ⟨I3, L3, ?_, ?_, fun a ha => by rw [x3 a (by simp <;> omega), x2 a (by simp <;> omega), x1 a (by simp <;> omega)], l3 140 (by omega)⟩
      · rw [e_SL_days_0, show (60 : Int32) = nI 60 from rfl, r_two (by omega), hx, if_pos rfl, e1, k_V, k_1, k_2, k_3, e2, k_V, k_1, k_2, k_3, f2, g2]
        have e3' := e3
        unfold pDF pDK at e3'
        rw [e3', k_V, k_1, k_2, k_3, s3.2.1]
      · refine hi.st (fun a ha => ?_) ?_ (fun w hw => ?_) s3 ?_ t3
        · unfold scC at ha
          rw [x3 a (by simp <;> omega), x2 a (by simp <;> omega), x1 a (by simp <;> omega)]
        · rw [x3 101 (by simp), r2, x1 101 (by simp <;> omega)]
        · rw [x3 127 (by simp), x2 127 (by simp), x1 127 (by simp <;> omega)]
        · exact (u1.ex x2 (by intro a ha; simp <;> omega)).ex x3 (by intro a ha; simp <;> omega)
    · have x9 : exc [139] I (ev_up I 139 0 0) := exc.rf.up (by simp)
      obtain ⟨I1, e1, x1, u1, m1⟩ := c_putsBy (h := h) (L := L) (d + 98) (hi.2.2.2.2.2.1.ex x9 (u_j (by omega)) (by simp)) (hi.2.2.2.1.ex x9 (by simp))
      have hB1 : bkM I1 (aBk A).1 (aBk A).2.1 (aBk A).2.2 := hi.2.2.1.th (fun a ha => by rw [x1 a (by simp <;> omega), u_cf (by omega)]) (by rw [x1 139 (by simp), u_j (by omega)])
      have hR1 : rlM2 I1 (aRl A).2 (aRl A).1 := hi.2.2.2.2.1.th (by rw [x1 149 (by simp), u_cf (by omega)]) (by rw [x1 139 (by simp), u_j (by omega)])
      have hs1 : mSt 143 0 I1 (aS A) := (hi.2.2.2.1.ex x9 (by simp)).ex x1 (by simp)
      have lp : ∃ I2, ev_at (d + 99) M_Mo_days 30 [.ref 139, .int (nI k), .int (nI (pDF A 0)), .int (nI (pDK A 0)), .int (nI 0)] [] (ev_mk h I1 L) = ev_at (d + 99) M_Mo_days 30 [.ref 139, .int (nI k), .int (nI (pDF A k)), .int (nI (pDK A k)), .int (nI k)] [] (ev_mk h I2 L) ∧ exc [143, 151, 152, 153, 154] I1 I2 ∧ mSt 143 0 I2 (pDy A k) := by
        refine lpX (F := fun i J => ev_at (d + 99) M_Mo_days 30 [.ref 139, .int (nI k), .int (nI (pDF A i)), .int (nI (pDK A i)), .int (nI i)] [] (ev_mk h J L)) (fun i J => exc [143, 151, 152, 153, 154] I1 J ∧ mSt 143 0 J (pDy A i)) k ?_ ?_ 0 (by omega) _ ⟨exc.rf, hs1⟩
        · intro i J hi' ⟨p1, p2⟩
          obtain ⟨J1, g1, g2, g3⟩ := c_dayGoes (h := h) (L := L) (d + 92) (hB1.ex p1 (by simp) (by simp) (by simp)) (Or.inl rfl : 143 = 143 ∨ 143 = 144) p2 (pDy_wf hw i) (hR1.ex p1 (by simp) (by simp)) hT
          have q3 : J1 143 24 = nI (stN (aBk A).1 (aBk A).2.1 (aBk A).2.2 (aRl A).2 (aRl A).1 (pDy A i)) := g3.at (by omega)
          have hst := stN_lt (aBk A).1 (aBk A).2.1 (aBk A).2.2 (aRl A).2 (aRl A).1 (pDy A i)
          refine Or.inl ⟨J1, ?_, p1.tr (g2.mono (by simp)), g3⟩
          have eF : pDF A (i + 1) = pDF A i + dayF (aBk A).1 (aBk A).2.1 (aBk A).2.2 (aRl A).2 (aRl A).1 (pDy A i) := rfl
          have eK : pDK A (i + 1) = pDK A i + if decide (stN (aBk A).1 (aBk A).2.1 (aBk A).2.2 (aRl A).2 (aRl A).1 (pDy A i) ≠ 0) then 1 else 0 := fb_ct_succ _ _
          rw [eF, eK, e_Mo_days_30, if_pos ((q_lt (by omega) (by omega)).mpr hi'), g1, k_I, k_1, k_2, k_3, q3, q_add]
          by_cases z : stN (aBk A).1 (aBk A).2.1 (aBk A).2.2 (aRl A).2 (aRl A).1 (pDy A i) = 0
          · rw [if_pos (by rw [z]; rfl), e_Mo_days_63, show (.int 0 : Value) = .int (fl false) from rfl, c_Mo_flag (d + 98), k_I, k_1, k_2, k_3, fl_or, q_add, show nI i + 1 = nI (i + 1) from q_add i 1, decide_eq_false (by simpa using z)]
          · rw [if_neg (show ¬ nI (stN (aBk A).1 (aBk A).2.1 (aBk A).2.2 (aRl A).2 (aRl A).1 (pDy A i)) = (0 : Int32) from fun y => z ((q_eq (b := 0) (by omega) (by omega)).mp y)), e_Mo_days_63, show (.int 1 : Value) = .int (fl true) from rfl, c_Mo_flag (d + 98), k_I, k_1, k_2, k_3, fl_or, q_add, show nI i + 1 = nI (i + 1) from q_add i 1, decide_eq_true z]
        · intro J ⟨p1, p2⟩
          exact ⟨J, rfl, p1, p2⟩
      obtain ⟨I2, e2, x2, s2⟩ := lp
      obtain ⟨I3, L3, e3, x3, n3, l3, t3⟩ := t_enters (h := h) (x := (nI (pDF A k)).toInt64) (d + 98) (rwM.nil (I := I2) (L := L)) (show 0 < 24 by decide)
      obtain ⟨I4, L4, e4, x4, n4, l4, t4⟩ := t_enters (h := h) (x := (nI (pDK A k)).toInt64) (d + 98) t3 (show 1 < 24 by decide)
      have x24 : exc [139] I2 I4 := ((exc.rf.up (by simp)).tr x3).tr x4
      have n24 : ∀ j, j ≠ 1 → I4 139 j = I2 139 j := fun j hj => by rw [n4 j hj, n3 j hj, u_j hj]
      have s4 : mSt 143 0 I4 (pDy A k) := s2.ex x24 (by simp)
      obtain ⟨I5, e5, x5, n5, u5⟩ := c_adds (h := h) (L := L4) (x := pDy A k 24) (d + 98) ((u1.ex x2 (by rw [x2 139 (by simp)]) (by simp)).ex x24 (n24 26 (by omega)) (by simp)) ((m1.ex x2 (by simp)).ex x24 (by simp))
      refine ⟨I5, L4, ?_, ?_, fun a ha => ?_, by rw [l4 4 (by omega), l3 4 (by omega)]⟩
      · rw [e_Mo_days_0, c_in60, k_I, k_1, k_2, k_3, hx, if_neg (show ¬ fl true = 0 by decide), e1, k_V, k_1, k_2, k_3]
        refine e2.trans ?_
        rw [e_Mo_days_30, if_neg (fun z => absurd ((q_lt (by omega) (by omega)).mp z) (by omega)), e3, k_V, k_1, k_2, k_3, e4, k_V, k_1, k_2, k_3, s4.at (by omega), e5, k_I, k_1, k_2, k_3]
      · refine hi.st (fun a ha => ?_) (fun j hj => ?_) (s4.ex x5 (by simp)) u5 (t4.of (n5 1 (by omega)) rfl)
        · unfold scM at ha
          rw [x5 a (by simp <;> omega), x24 a (by simp <;> omega), x2 a (by simp <;> omega), x1 a (by simp <;> omega), u_cf (by omega)]
        · rw [n5 j (by omega), n24 j (by omega), x2 139 (by simp), x1 139 (by simp), u_j (by omega)]
      · rw [x5 a (by simp <;> omega), x24 a (by simp <;> omega), x2 a (by simp <;> omega), x1 a (by simp <;> omega), u_cf (by omega)]
theorem op_ahead {x : Int32} (hi : inv I L) : okI h d M_SL_ahead M_Mo_ahead [.int x] I L := by
  refine ok_of (fun A hw => ?_) hi
  have hW := hw.2.2.1.1
  have hT := hw.2.2.2.2.1
  cases hx : blw x 100 with
  | false =>
    refine ⟨-1, A, hw, fun I L hi => ⟨I, L, ?_, hi, fun _ _ => rfl, rfl⟩, fun I L hi => ⟨_, L, ?_, hi.th, th_lo, rfl⟩⟩
    · rw [e_SL_ahead_0, show (99 : Int32) = nI 99 from rfl, r_two (by omega), hx, if_neg (by decide)]
    · rw [e_Mo_ahead_0, c_in99, k_I, k_1, k_2, k_3, hx, if_pos (show fl false = 0 from rfl)]
  | true =>
    obtain ⟨k, hk, rfl⟩ := (blw_iff (by omega)).mp hx
    refine ⟨pDy A k 24, sRw A (snoc (snoc nil0 (pDy A k 26).toInt64) (sm8 (fun j => pDy A k (8 + j)) 8).toInt64), hw.rw (show 2 ≤ 9 by decide), fun I L hi => ?_, fun I L hi => ?_⟩
    · have x1 := cpS_ex I 21 17
      have s1 : cSt 21 (cpS I 21 17) (aS A) := cpS_st (by omega) hi.2.2.2.1
      obtain ⟨I2, e2, x2, r2, s2, f2, g2⟩ := c_passDays (h := h) (L := L) (k := k) (d + 93) (hi.2.2.1.ex x1 (by intro a ha; simp <;> omega)) (Or.inr rfl : 21 = 17 ∨ 21 = 21) s1 hw.2.2.2.1 (hi.2.2.2.2.1.ex x1 (by rw [x1 101 (by simp)]) (by simp)) hT (by omega)
      obtain ⟨I3, L3, e3, x3, l3, t3⟩ := t_two (h := h) (I := I2) (L := L) (x := (pDy A k 26).toInt64) (y := (sm8 (fun j => pDy A k (8 + j)) 8).toInt64) (d + 97)
      have s3 : cSt 21 I3 (pDy A k) := s2.ex x3 (by simp) (by simp) (by simp) (by simp)
      have fr : frC I I3 := (frC.of x1 (by simp [scC]) (by rw [x1 101 (by simp)]) (by simp)).tr ((frC.of x2 (by simp [scC]) r2 (by simp)).tr (frC.of x3 (by simp [scC]) (by rw [x3 101 (by simp)]) (by simp)))
      refine ⟨I3, L3, ?_, hi.q fr t3, fr.hi, l3 140 (by omega)⟩
      rw [e_SL_ahead_0, show (99 : Int32) = nI 99 from rfl, r_two (by omega), hx, if_pos rfl, c_copyT, k_V, k_1, k_2, k_3, e2, k_V, k_1, k_2, k_3, c_moodsTogether (d + 97) (Or.inr rfl) s2, k_I, k_1, k_2, k_3, s2.2.2.2, show dysS (aBk A).1 (aBk A).2.1 (aBk A).2.2 (aRl A).2 (aRl A).1 k (aS A) = pDy A k from rfl, e3, k_V, k_1, k_2, k_3, s3.2.1]
    · have x9 : exc [139] I (ev_up I 139 0 0) := exc.rf.up (by simp)
      obtain ⟨I1, e1, x1, s1⟩ := c_Mo_copies (h := h) (L := L) (d + 98) (hi.2.2.2.1.ex x9 (by simp))
      have hB1 : bkM I1 (aBk A).1 (aBk A).2.1 (aBk A).2.2 := hi.2.2.1.th (fun a ha => by rw [x1 a (by simp <;> omega), u_cf (by omega)]) (by rw [x1 139 (by simp), u_j (by omega)])
      have hR1 : rlM2 I1 (aRl A).2 (aRl A).1 := hi.2.2.2.2.1.th (by rw [x1 149 (by simp), u_cf (by omega)]) (by rw [x1 139 (by simp), u_j (by omega)])
      have lp : ∃ I2, ev_at (d + 99) M_Mo_ahead 25 [.ref 139, .int (nI k), .int (nI 0)] [] (ev_mk h I1 L) = ev_at (d + 99) M_Mo_ahead 25 [.ref 139, .int (nI k), .int (nI k)] [] (ev_mk h I2 L) ∧ exc [144, 151, 152, 153, 154] I1 I2 ∧ mSt 144 0 I2 (pDy A k) := by
        refine lpX (F := fun i J => ev_at (d + 99) M_Mo_ahead 25 [.ref 139, .int (nI k), .int (nI i)] [] (ev_mk h J L)) (fun i J => exc [144, 151, 152, 153, 154] I1 J ∧ mSt 144 0 J (pDy A i)) k ?_ ?_ 0 (by omega) _ ⟨exc.rf, s1⟩
        · intro i J hi' ⟨p1, p2⟩
          obtain ⟨J1, g1, g2, g3⟩ := c_dayGoes (h := h) (L := L) (d + 92) (hB1.ex p1 (by simp) (by simp) (by simp)) (Or.inr rfl : 144 = 143 ∨ 144 = 144) p2 (pDy_wf hw i) (hR1.ex p1 (by simp) (by simp)) hT
          refine Or.inl ⟨J1, ?_, p1.tr (g2.mono (by simp)), g3⟩
          rw [e_Mo_ahead_25, if_pos ((q_lt (by omega) (by omega)).mpr hi'), g1, k_I, k_1, k_2, k_3, show nI i + 1 = nI (i + 1) from q_add i 1]
        · intro J ⟨p1, p2⟩
          exact ⟨J, rfl, p1, p2⟩
      obtain ⟨I2, e2, x2, s2⟩ := lp
      obtain ⟨I3, L3, e3, x3, n3, l3, t3⟩ := t_enters (h := h) (x := (pDy A k 26).toInt64) (d + 98) (rwM.nil (I := I2) (L := L)) (show 0 < 24 by decide)
      have s3 : mSt 144 0 I3 (pDy A k) := (s2.ex (exc.rf.up (by simp) : exc [139] I2 (ev_up I2 139 1 0)) (by simp)).ex x3 (by simp)
      obtain ⟨I4, L4, e4, x4, n4, l4, t4⟩ := t_enters (h := h) (x := (sm8 (fun j => pDy A k (8 + j)) 8).toInt64) (d + 98) t3 (show 1 < 24 by decide)
      have s4 : mSt 144 0 I4 (pDy A k) := s3.ex x4 (by simp)
      have fr : frM I I4 := by
        refine ((frM.rf.up (by unfold scM; omega) (by omega) : frM I (ev_up I 139 0 0)).tr ((frM.of x1 (by simp [scM]) (by simp)).tr (frM.of x2 (by simp [scM]) (by simp)))).tr ((frM.rf.up (by unfold scM; omega) (by omega) : frM I2 (ev_up I2 139 1 0)).tr ⟨fun a ha => ?_, fun j hj => ?_⟩)
        · rw [x4 a (by unfold scM at ha; simp <;> omega), x3 a (by unfold scM at ha; simp <;> omega)]
        · rw [n4 j (by omega), n3 j (by omega)]
      refine ⟨I4, L4, ?_, hi.q fr t4, fr.lo, by rw [l4 4 (by omega), l3 4 (by omega)]⟩
      rw [e_Mo_ahead_0, c_in99, k_I, k_1, k_2, k_3, hx, if_neg (show ¬ fl true = 0 by decide), e1, k_V, k_1, k_2, k_3]
      refine e2.trans ?_
      rw [e_Mo_ahead_25, if_neg (fun z => absurd ((q_lt (by omega) (by omega)).mp z) (by omega)), s2.at (by omega), e3, k_V, k_1, k_2, k_3, show (.int 8 : Value) = .int (nI 8) from rfl, c_Mo_sumOf (f := fun j => pDy A k (8 + j)) (d + 98) (Or.inr rfl) (by omega) (fun j hj => s3.at (by omega)), k_I, k_1, k_2, k_3, e4, k_V, k_1, k_2, k_3, s4.at (by omega)]
end OD

/-! year. -/
section YR
variable {h : Bool × Nat × Nat} {d : Nat} {I J K : Nat → Nat → Int32} {L : Nat → Nat → Int64} {A : aP}
def doA (A : aP) (tx : Nat → Nat) (p : Nat) (s : Nat → Int32) : Int32 × (Nat → Int32) :=
  if tx p = 110 then (0, dysS (aBk A).1 (aBk A).2.1 (aBk A).2.2 (aRl A).2 (aRl A).1 (tx (p + 1) - 48) s)
  else if tx p = 120 then aMu (aBk A).1 (aBk A).2.1 s (nI (tx (p + 1) - 48)) (nI (tx (p + 2) - 48))
  else if tx p = 111 then aOf s (nI (tx (p + 1) - 97)) (nI (tx (p + 2) - 48))
  else if tx p = 114 then aSt s (nI (tx (p + 1) - 97)) (nI (tx (p + 2) - 48))
  else aSt s (nI (tx (p + 1) - 97)) (-(nI (tx (p + 2) - 48)))
theorem doA_wf (hw : wfA A) (tx : Nat → Nat) (p : Nat) {s : Nat → Int32} (hs : wfS (aBk A).2.1 s) : wfS (aBk A).2.1 (doA A tx p s).2 := by
  unfold doA
  split
  · exact dysS_wf hs _
  · split
    · exact aMu_wf hw.2.2.1 hs _ _
    · split
      · exact aOf_wf hs _ _
      · split
        · exact aSt_wf hs _ _
        · exact aSt_wf hs _ _
def sA (A : aP) (tx : Nat → Nat) : Nat → (Nat → Int32)
  | 0 => aS A
  | i + 1 => (doA A tx (qA tx i) (sA A tx i)).2
theorem sA_wf (hw : wfA A) (tx : Nat → Nat) : ∀ i, wfS (aBk A).2.1 (sA A tx i)
  | 0 => hw.2.2.2.1
  | i + 1 => doA_wf hw tx _ (sA_wf hw tx i)
theorem sA_or (A : aP) (tx : Nat → Nat) : ∀ n, ∃ m, m ≤ n ∧ (∀ i, i < m → ¬ (doA A tx (qA tx i) (sA A tx i)).1 < 0) ∧ (m = n ∨ (m < n ∧ (doA A tx (qA tx m) (sA A tx m)).1 < 0))
  | 0 => ⟨0, Nat.le_refl _, fun i hi => absurd hi (by omega), Or.inl rfl⟩
  | n + 1 => by
    obtain ⟨m, h1, h2, h3⟩ := sA_or A tx n
    rcases h3 with h3 | h3
    · by_cases z : (doA A tx (qA tx m) (sA A tx m)).1 < 0
      · exact ⟨m, by omega, h2, Or.inr ⟨by omega, z⟩⟩
      · refine ⟨m + 1, by omega, fun i hi => ?_, Or.inl (by omega)⟩
        by_cases e : i = m
        · rw [e]; exact z
        · exact h2 i (by omega)
    · exact ⟨m, by omega, h2, Or.inr ⟨by omega, h3.2⟩⟩
theorem ok_dg {a c : Nat} (h1 : a = 110 ∨ a = 120) (h2 : ok1 a c = true) : 48 ≤ c ∧ c ≤ 57 := by
  unfold ok1 ok2 at h2
  rw [if_pos h1, if_neg (show ¬ (a = 114 ∨ a = 113) by omega), Bool.and_eq_true, decide_eq_true_iff, decide_eq_true_iff] at h2
  exact h2
theorem ok_lt {a c : Nat} (h1 : ¬ (a = 110 ∨ a = 120)) (h2 : ok1 a c = true) : 97 ≤ c ∧ c ≤ 104 := by
  unfold ok1 isLt at h2
  rw [if_neg h1, Bool.and_eq_true, decide_eq_true_iff, decide_eq_true_iff] at h2
  exact h2
theorem ok_d2 {a c : Nat} (h2 : ok2 a c = true) : 48 ≤ c ∧ c ≤ 57 := by
  unfold ok2 at h2
  rw [Bool.and_eq_true, decide_eq_true_iff, decide_eq_true_iff] at h2
  refine ⟨?_, h2.2⟩
  have := h2.1
  split at this <;> omega
abbrev yX : List Nat := [17, 18, 19, 20, 101, 103, 110, 111, 112, 113]
theorem c_doAct (d : Nat) (hw : wfA A) {t : Nat × (Nat → Nat)} {s : Nat → Int32} (hB : bkD J (aBk A).1 (aBk A).2.1 (aBk A).2.2) (hR : rlC 101 J (aRl A).2 (aRl A).1) (ht : txC J t) (h8 : t.1 ≤ 80) (h2 : ∀ j, j < t.1 → t.2 j < 256) {p : Nat} (hf : flt t.2 t.1 p = none) (hs : cSt 17 J s) (hws : wfS (aBk A).2.1 s) : ∃ v J', ev_do (d + 7) M_SL_doAct [.ref 0, .int (nI p)] (ev_mk h J L) = ev_ri v (ev_mk h J' L) ∧ (v < 0 ↔ (doA A t.2 p s).1 < 0) ∧ exc yX J J' ∧ J' 101 1 = J 101 1 ∧ cSt 17 J' (doA A t.2 p s).2 := by
  have hT := hw.2.2.2.2.1
  rcases flt_none hf with ⟨g1, g2, g3, g4⟩ | ⟨g1, g2, g3, g4, g5⟩
  · have hc := ok_dg (Or.inl g1) g4
    obtain ⟨J', e1, x1, r1, s1⟩ := lpF (F := fun i K => ev_at (d + 6) M_SL_doAct 29 [.ref 0, .float 0, .float 0, .int (nI (t.2 (p + 1))), .int (nI i)] [] (ev_mk h K L)) (fun i K => exc yX J K ∧ K 101 1 = J 101 1 ∧ cSt 17 K (dysS (aBk A).1 (aBk A).2.1 (aBk A).2.2 (aRl A).2 (aRl A).1 i s)) (t.2 (p + 1) - 48) (fun i K hi ⟨p1, p2, p3⟩ => by
      obtain ⟨K2, a1, a2, a3, a4⟩ := c_passDay (h := h) (L := L) (d + 1) (hB.ex p1 (by intro a ha; simp <;> omega)) (Or.inl rfl : 17 = 17 ∨ 17 = 21) p3 (dysS_wf hws i) (hR.ex p1 p2 (by simp)) hT
      refine ⟨K2, ?_, p1.tr (a2.mono (by simp)), a3.trans p2, a4⟩
      show ev_at (d + 6) M_SL_doAct 29 [.ref 0, .float 0, .float 0, .int (nI (t.2 (p + 1))), .int (nI i)] [] (ev_mk h K L) = _
      rw [e_SL_doAct_29, show nI (t.2 (p + 1)) - 48 = nI (t.2 (p + 1) - 48) from q_sub (b := 48) (by omega), if_pos ((q_lt (by omega) (by omega)).mpr hi), a1, k_I, k_1, k_2, k_3, show nI i + 1 = nI (i + 1) from q_add i 1]) J ⟨exc.rf, rfl, hs⟩
    have hd : doA A t.2 p s = (0, dysS (aBk A).1 (aBk A).2.1 (aBk A).2.2 (aRl A).2 (aRl A).1 (t.2 (p + 1) - 48) s) := if_pos g1
    have hn : ¬ (dysS (aBk A).1 (aBk A).2.1 (aBk A).2.2 (aRl A).2 (aRl A).1 (t.2 (p + 1) - 48) s) 24 < 0 := by
      have := (dysS_wf (W := (aBk A).1) (lt := (aBk A).2.2) (T := (aRl A).2) (n := (aRl A).1) hws (t.2 (p + 1) - 48)).s
      rw [this.1]; exact q_nn (by omega)
    rw [hd]
    refine ⟨_, J', ?_, ⟨fun z => absurd z hn, fun z => absurd z (show ¬ (0 : Int32) < 0 by decide)⟩, x1, r1, s1⟩
    rw [e_SL_doAct_0, c_sgn (d + 5) ht h8 h2 (by omega), k_I, k_1, k_2, k_3, show nI p + 1 = nI (p + 1) from q_add p 1, c_sgn (d + 5) ht h8 h2 (by omega), k_I, k_1, k_2, k_3, if_pos (show nI (t.2 p) = 110 by rw [g1]; rfl)]
    refine e1.trans ?_
    show ev_at (d + 6) M_SL_doAct 29 [.ref 0, .float 0, .float 0, .int (nI (t.2 (p + 1))), .int (nI (t.2 (p + 1) - 48))] [] (ev_mk h J' L) = _
    rw [e_SL_doAct_29, show nI (t.2 (p + 1)) - 48 = nI (t.2 (p + 1) - 48) from q_sub (b := 48) (by omega), if_neg (fun z => absurd ((q_lt (by omega) (by omega)).mp z) (by omega)), s1.2.1]
  · have hc := h2 p (by omega)
    have hc2 := ok_d2 g5
    have e2 : nI (t.2 (p + 2)) - 48 = nI (t.2 (p + 2) - 48) := q_sub (b := 48) (by omega)
    have pre : ∀ R : Option ev_R → Prop, R (if nI (t.2 p) = 120 then ev_cI (ev_do (d + 6) M_Book_mute [.ref 5, .ref 17, .int (nI (t.2 (p + 1)) - 48), .int (nI (t.2 (p + 2) - 48))] (ev_mk h J L)) (fun v8 s7 => ev_ri v8 (ev_mk s7.1.2 s7.2.1 s7.2.2.1)) else (if nI (t.2 p) = 111 then ev_cI (ev_do (d + 6) M_State_putOffer [.ref 17, .int (nI (t.2 (p + 1)) - 97), .int (nI (t.2 (p + 2) - 48))] (ev_mk h J L)) (fun v8 s7 => ev_ri v8 (ev_mk s7.1.2 s7.2.1 s7.2.2.1)) else (if nI (t.2 p) = 114 then ev_cI (ev_do (d + 6) M_State_stir [.ref 17, .int (nI (t.2 (p + 1)) - 97), .int (nI (t.2 (p + 2) - 48))] (ev_mk h J L)) (fun v8 s7 => ev_ri v8 (ev_mk s7.1.2 s7.2.1 s7.2.2.1)) else ev_cI (ev_do (d + 6) M_State_stir [.ref 17, .int (nI (t.2 (p + 1)) - 97), .int (-(nI (t.2 (p + 2) - 48)))] (ev_mk h J L)) (fun v8 s7 => ev_ri v8 (ev_mk s7.1.2 s7.2.1 s7.2.2.1))))) → R (ev_do (d + 7) M_SL_doAct [.ref 0, .int (nI p)] (ev_mk h J L)) := by
      intro R hR'
      rw [e_SL_doAct_0, c_sgn (d + 5) ht h8 h2 (by omega), k_I, k_1, k_2, k_3, show nI p + 1 = nI (p + 1) from q_add p 1, c_sgn (d + 5) ht h8 h2 (by omega), k_I, k_1, k_2, k_3, if_neg (show ¬ nI (t.2 p) = 110 from fun z => g1 ((q_eq (b := 110) (by omega) (by omega)).mp z)), show nI p + 2 = nI (p + 2) from q_add p 2, c_sgn (d + 5) ht h8 h2 (by omega), k_I, k_1, k_2, k_3, e2]
      exact hR'
    refine pre (fun o => ∃ v J', o = ev_ri v (ev_mk h J' L) ∧ (v < 0 ↔ (doA A t.2 p s).1 < 0) ∧ exc yX J J' ∧ J' 101 1 = J 101 1 ∧ cSt 17 J' (doA A t.2 p s).2) ?_
    unfold doA
    rw [if_neg g1]
    by_cases y1 : t.2 p = 120
    · have hd := ok_dg (Or.inr y1) g4
      obtain ⟨J', a1, a2, a3⟩ := c_mute (h := h) (L := L) (d + 3) hB.1 (x := nI (t.2 (p + 1) - 48)) (y := nI (t.2 (p + 2) - 48)) (Or.inl rfl : 17 = 17 ∨ 17 = 21) hs hws
      rw [if_pos y1, if_pos (show nI (t.2 p) = 120 by rw [y1]; rfl), show nI (t.2 (p + 1)) - 48 = nI (t.2 (p + 1) - 48) from q_sub (b := 48) (by omega), a1, k_I, k_1, k_2, k_3]
      exact ⟨_, J', rfl, Iff.rfl, a2.mono (by simp), by rw [a2 101 (by simp)], a3⟩
    · have hd := ok_lt (fun z => z.elim g1 y1) g4
      have e1 : nI (t.2 (p + 1)) - 97 = nI (t.2 (p + 1) - 97) := q_sub (b := 97) (by omega)
      rw [if_neg y1, if_neg (show ¬ nI (t.2 p) = 120 from fun z => y1 ((q_eq (b := 120) (by omega) (by omega)).mp z)), e1]
      by_cases y2 : t.2 p = 111
      · obtain ⟨J', a1, a2, a3⟩ := c_putOffer (h := h) (L := L) (d + 4) (x := nI (t.2 (p + 1) - 97)) (y := nI (t.2 (p + 2) - 48)) (Or.inl rfl : 17 = 17 ∨ 17 = 21) hs
        rw [if_pos y2, if_pos (show nI (t.2 p) = 111 by rw [y2]; rfl), a1, k_I, k_1, k_2, k_3]
        exact ⟨_, J', rfl, Iff.rfl, a2.mono (by simp), by rw [a2 101 (by simp)], a3⟩
      · rw [if_neg y2, if_neg (show ¬ nI (t.2 p) = 111 from fun z => y2 ((q_eq (b := 111) (by omega) (by omega)).mp z))]
        by_cases y3 : t.2 p = 114
        · obtain ⟨J', a1, a2, a3⟩ := c_stir (h := h) (L := L) (d + 4) (x := nI (t.2 (p + 1) - 97)) (y := nI (t.2 (p + 2) - 48)) hs
          rw [if_pos y3, if_pos (show nI (t.2 p) = 114 by rw [y3]; rfl), a1, k_I, k_1, k_2, k_3]
          exact ⟨_, J', rfl, Iff.rfl, a2.mono (by simp), by rw [a2 101 (by simp)], a3⟩
        · obtain ⟨J', a1, a2, a3⟩ := c_stir (h := h) (L := L) (d + 4) (x := nI (t.2 (p + 1) - 97)) (y := -(nI (t.2 (p + 2) - 48))) hs
          rw [if_neg y3, if_neg (show ¬ nI (t.2 p) = 114 from fun z => y3 ((q_eq (b := 114) (by omega) (by omega)).mp z)), a1, k_I, k_1, k_2, k_3]
          exact ⟨_, J', rfl, Iff.rfl, a2.mono (by simp), by rw [a2 101 (by simp)], a3⟩
abbrev yXM : List Nat := [143, 151, 152, 153, 154]
theorem c_does (d : Nat) (hw : wfA A) {tx : Nat → Nat} {e p i : Nat} {s : Nat → Int32} (hi : i < 60) (hB : bkM J (aBk A).1 (aBk A).2.1 (aBk A).2.2) (hR : rlM2 J (aRl A).2 (aRl A).1) (ha : acM J tx i p) (h2 : ∀ j, j < e → tx j < 256) (hf : flt tx e p = none) (hs : mSt 143 0 J s) (hws : wfS (aBk A).2.1 s) : ∃ J', ev_do (d + 9) M_Mo_does [.ref 139, .int (nI i)] (ev_mk h J L) = ev_ri (fl (!decide ((doA A tx p s).1 < 0))) (ev_mk h J' L) ∧ exc yXM J J' ∧ mSt 143 0 J' (doA A tx p s).2 := by
  have hT := hw.2.2.2.2.1
  have hin : ev_in (nI i) 60 = true := by rw [q_in (by omega)]; simpa using hi
  obtain ⟨a1, a2, a3⟩ := ha
  have fin : ∀ (v : Int32) (J' : Nat → Nat → Int32), (if v < 0 then ev_ri 0 (ev_mk h J' L) else ev_ri 1 (ev_mk h J' L)) = ev_ri (fl (!decide (v < 0))) (ev_mk h J' L) := by
    intro v J'
    by_cases z : v < 0
    · rw [if_pos z, decide_eq_true z]; rfl
    · rw [if_neg z, decide_eq_false z]; rfl
  rw [e_Mo_does_0, hin, if_pos rfl, if_pos rfl, q_cl (by omega), a1, a2]
  unfold doA
  rcases flt_none hf with ⟨g1, g2, g3, g4⟩ | ⟨g1, g2, g3, g4, g5⟩
  · have hc := ok_dg (Or.inl g1) g4
    rw [if_pos g1, if_pos (show nI (kdC (tx p)) = 0 by rw [g1]; rfl), if_pos (Or.inl g1), show (.int 0 : Value) = .int (nI 0) from rfl]
    obtain ⟨J', e1, x1, s1⟩ := lpF (F := fun i K => ev_at (d + 8) M_Mo_does 46 [.ref 139, .float 0, .int (nI (tx (p + 1) - 48)), .int (nI i)] [] (ev_mk h K L)) (fun i K => exc yXM J K ∧ mSt 143 0 K (dysS (aBk A).1 (aBk A).2.1 (aBk A).2.2 (aRl A).2 (aRl A).1 i s)) (tx (p + 1) - 48) (fun i K hi ⟨p1, p3⟩ => by
      obtain ⟨K2, b1, b2, b4⟩ := c_dayGoes (h := h) (L := L) (d + 1) (hB.ex p1 (by simp) (by simp) (by simp)) (Or.inl rfl : 143 = 143 ∨ 143 = 144) p3 (dysS_wf hws i) (hR.ex p1 (by simp) (by simp)) hT
      refine ⟨K2, ?_, p1.tr (b2.mono (by simp)), b4⟩
      show ev_at (d + 8) M_Mo_does 46 [.ref 139, .float 0, .int (nI (tx (p + 1) - 48)), .int (nI i)] [] (ev_mk h K L) = _
      rw [e_Mo_does_46, if_pos ((q_lt (by omega) (by omega)).mpr hi), b1, k_I, k_1, k_2, k_3, show nI i + 1 = nI (i + 1) from q_add i 1]) J ⟨exc.rf, hs⟩
    refine ⟨J', e1.trans ?_, x1, s1⟩
    show ev_at (d + 8) M_Mo_does 46 [.ref 139, .float 0, .int (nI (tx (p + 1) - 48)), .int (nI (tx (p + 1) - 48))] [] (ev_mk h J' L) = _
    rw [e_Mo_does_46, if_neg (fun z => absurd ((q_lt (by omega) (by omega)).mp z) (by omega))]; rfl
  · have hln := lnC_c (tx p)
    have h3 := a3 g1
    have hc2 := ok_d2 g5
    rw [if_neg g1, h3]
    by_cases y1 : tx p = 120
    · have hd := ok_dg (Or.inr y1) g4
      obtain ⟨J', b1, b2, b3⟩ := c_Mo_mutesOne (h := h) (L := L) (d + 5) hB (x := nI (tx (p + 1) - 48)) (y := nI (tx (p + 2) - 48)) (Or.inl rfl : 143 = 143 ∨ 143 = 144) hs hws
      rw [if_pos y1, if_neg (show ¬ nI (kdC (tx p)) = 0 by rw [y1]; decide), if_pos (show nI (kdC (tx p)) = 1 by rw [y1]; rfl), if_pos rfl, if_pos (Or.inr y1), b1, k_I, k_1, k_2, k_3]
      exact ⟨J', fin _ _, b2.mono (by simp), b3⟩
    · have hd := ok_lt (fun z => z.elim g1 y1) g4
      rw [if_neg y1, if_neg (c := tx p = 110 ∨ tx p = 120) (fun z => z.elim g1 y1)]
      by_cases y2 : tx p = 111
      · obtain ⟨J', b1, b2, b3⟩ := c_Mo_offers (h := h) (L := L) (d + 5) (x := nI (tx (p + 1) - 97)) (y := nI (tx (p + 2) - 48)) (Or.inl rfl : 143 = 143 ∨ 143 = 144) hs
        rw [if_pos y2, if_neg (show ¬ nI (kdC (tx p)) = 0 by rw [y2]; decide), if_neg (show ¬ nI (kdC (tx p)) = 1 by rw [y2]; decide), if_pos (show nI (kdC (tx p)) = 2 by rw [y2]; rfl), if_pos rfl, b1, k_I, k_1, k_2, k_3]
        exact ⟨J', fin _ _, b2.mono (by simp), b3⟩
      · rw [if_neg y2]
        by_cases y3 : tx p = 114
        · obtain ⟨J', b1, b2, b3⟩ := c_Mo_stirsOne (h := h) (L := L) (d + 5) (x := nI (tx (p + 1) - 97)) (y := nI (tx (p + 2) - 48)) hs
          rw [if_pos y3, if_neg (show ¬ nI (kdC (tx p)) = 0 by rw [y3]; decide), if_neg (show ¬ nI (kdC (tx p)) = 1 by rw [y3]; decide), if_neg (show ¬ nI (kdC (tx p)) = 2 by rw [y3]; decide), if_pos (show nI (kdC (tx p)) = 3 by rw [y3]; rfl), if_pos rfl, b1, k_I, k_1, k_2, k_3]
          exact ⟨J', fin _ _, b2.mono (by simp), b3⟩
        · obtain ⟨J', b1, b2, b3⟩ := c_Mo_stirsOne (h := h) (L := L) (d + 5) (x := nI (tx (p + 1) - 97)) (y := -(nI (tx (p + 2) - 48))) hs
          have hk : kdC (tx p) = 4 := by unfold kdC; rw [if_neg g1, if_neg y1, if_neg y2, if_neg y3]
          rw [if_neg y3, hk, if_neg (show ¬ nI 4 = 0 by decide), if_neg (show ¬ nI 4 = 1 by decide), if_neg (show ¬ nI 4 = 2 by decide), if_neg (show ¬ nI 4 = 3 by decide), if_pos rfl, b1, k_I, k_1, k_2, k_3]
          exact ⟨J', fin _ _, b2.mono (by simp), b3⟩
end YR

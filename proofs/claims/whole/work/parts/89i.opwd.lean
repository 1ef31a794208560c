/-! words. -/
section WD
variable {h : Bool × Nat × Nat} {d : Nat} {I J K : Nat → Nat → Int32} {L : Nat → Nat → Int64} {A : aP} {tx : Nat → Nat} {e : Nat}
def leM (K : Nat → Nat → Int32) (A : aP) (tx : Nat → Nat) (e n : Nat) : Prop := K 139 3 = nI ((aBk A).1 + n) ∧ (∀ w, w < 8 → K 142 w = nI (lnA A tx e n w) ∧ ∀ j, j < lnA A tx e n w → K 141 (8 * w + j) = nI (lgA A tx e n w j)) ∧ ∀ j, j < 27 → K 143 j = sAd A tx e n j
abbrev aXM : List Nat := [139, 141, 142, 143]
theorem c_addsM (d : Nat) (hw : wfA A) {N : Nat} (hN : ∀ i, i < N → (aBk A).1 + i < 8) (hl : ∀ i, i < N → liM K tx i (psL tx e i) (rnL tx e (psL tx e i))) (h17 : K 139 17 = nI N) (h0 : leM K A tx e 0) : ∃ K', ev_at d M_Mo_words 81 [.ref 139, .float 0, .float 0, .float 0, .float 0, .int (nI 0), .float 0] [] (ev_mk h K L) = ev_at d M_Mo_words 81 [.ref 139, .float 0, .float 0, .float 0, .float 0, .int (nI N), .float 0] [] (ev_mk h K' L) ∧ exc aXM K K' ∧ (∀ j, j ≠ 3 → K' 139 j = K 139 j) ∧ leM K' A tx e N := by
  have hN8 : N ≤ 8 := by
    by_cases z : N = 0
    · omega
    · have := hN (N - 1) (by omega); omega
  obtain ⟨K', e1, p⟩ := lpF (F := fun i K' => ev_at d M_Mo_words 81 [.ref 139, .float 0, .float 0, .float 0, .float 0, .int (nI i), .float 0] [] (ev_mk h K' L)) (fun i K' => exc aXM K K' ∧ (∀ j, j ≠ 3 → K' 139 j = K 139 j) ∧ leM K' A tx e i) N (fun i K1 hi ⟨p1, p2, p3⟩ => by
    have hWi := hN i hi
    have l := hl i hi
    have hr8 := rnL_le tx e (psL tx e i)
    obtain ⟨q1, q2, q3⟩ := p3
    have hin : ev_in (nI i) 8 = true := by rw [q_in (by omega)]; simp; omega
    obtain ⟨K2, e2, s1, s2, s3⟩ := lpF (F := fun j K' => ev_at d M_Mo_words 93 [.ref 139, .float 0, .float 0, .float 0, .float 0, .int (nI i), .int (nI j)] [] (ev_mk h K' L)) (fun j K' => exc [141] K1 K' ∧ (∀ a, ¬ (8 * ((aBk A).1 + i) ≤ a ∧ a < 8 * ((aBk A).1 + i) + 8) → K' 141 a = K1 141 a) ∧ ∀ a, a < j → K' 141 (8 * ((aBk A).1 + i) + a) = nI (ltr (tx (psL tx e i + a)))) (rnL tx e (psL tx e i)) (fun j K' hj ⟨t1, t2, t3⟩ => by
      refine ⟨ev_up K' 141 (8 * ((aBk A).1 + i) + j) (nI (ltr (tx (psL tx e i + j)))), ?_, t1.up (by simp), fun a ha => ?_, fun a ha => ?_⟩
      · show ev_at d M_Mo_words 93 [.ref 139, .float 0, .float 0, .float 0, .float 0, .int (nI i), .int (nI j)] [] (ev_mk h K' L) = _
        rw [e_Mo_words_93, hin, if_pos rfl, q_cl (by omega), t1 147 (by simp), p1 147 (by simp), l.1, if_pos ((q_lt (by omega) (by omega)).mpr hj), show (8 : Int32) * nI i + nI j = nI (8 * i + j) by rw [show (8 : Int32) = nI 8 from rfl, q_mul, q_add], q_in (by omega), if_pos (by simp <;> omega), t1 139 (by simp), q1, show (8 : Int32) * nI ((aBk A).1 + i) + nI j = nI (8 * ((aBk A).1 + i) + j) by rw [show (8 : Int32) = nI 8 from rfl, q_mul, q_add], q_in (by omega), if_pos (by simp <;> omega), q_cl (by omega), q_cl (by omega), t1 146 (by simp), p1 146 (by simp), l.2.2 j hj, show nI j + 1 = nI (j + 1) from q_add j 1]
      · rw [u_j (by omega)]; exact t2 a ha
      · by_cases z : a = j
        · rw [z, u_at]
        · rw [u_j (by omega)]; exact t3 a (by omega)) K1 ⟨exc.rf, fun _ _ => rfl, fun a z => absurd z (by omega)⟩
    have a1 := ad_new (A := A) (tx := tx) (e := e) (n := i)
    refine ⟨ev_up (ev_up (ev_up K2 142 ((aBk A).1 + i) (nI (rnL tx e (psL tx e i)))) 143 ((aBk A).1 + i) (nI (mkL tx (psL tx e i) (rnL tx e (psL tx e i))))) 139 3 (nI ((aBk A).1 + (i + 1))), ?_, p1.tr (((((s1.mono (by simp)) : exc aXM K1 K2).up (by simp)).up (by simp)).up (by simp)), fun j hj => ?_, u_at _ _ _ _, fun w hw' => ?_, fun j hj => ?_⟩
    · show ev_at d M_Mo_words 81 [.ref 139, .float 0, .float 0, .float 0, .float 0, .int (nI i), .float 0] [] (ev_mk h K1 L) = _
      rw [e_Mo_words_81, show K1 139 17 = nI N from (p2 17 (by omega)).trans h17, if_pos ((q_lt (by omega) (by omega)).mpr hi)]
      refine e2.trans ?_
      show ev_at d M_Mo_words 93 [.ref 139, .float 0, .float 0, .float 0, .float 0, .int (nI i), .int (nI (rnL tx e (psL tx e i)))] [] (ev_mk h K2 L) = _
      rw [e_Mo_words_93, hin, if_pos rfl, q_cl (by omega), s1 147 (by simp), p1 147 (by simp), l.1, if_neg (fun z => absurd ((q_lt (by omega) (by omega)).mp z) (by omega)), if_pos rfl, s1 139 (by simp), q1, q_in (n := 8) (by omega), if_pos (by simp <;> omega), if_pos rfl, q_in (n := 27) (by omega), if_pos (by simp <;> omega), q_cl (by omega), s1 148 (by simp), p1 148 (by simp), l.2.1, show nI i + 1 = nI (i + 1) from q_add i 1, show nI ((aBk A).1 + i) + 1 = nI ((aBk A).1 + (i + 1)) from q_add ((aBk A).1 + i) 1]
    · rw [u_j hj, u_c (by omega), u_c (by omega), s1 139 (by simp)]; exact p2 j hj
    · by_cases z : w = (aBk A).1 + i
      · refine ⟨?_, fun j hj => ?_⟩
        · rw [u_c (by omega), u_c (by omega), z, u_at, a1.1]
        · rw [z, a1.1] at hj
          rw [u_c (by omega), u_c (by omega), u_c (by omega), z, s3 j hj, a1.2.1]
      · have o := ad_old (A := A) (tx := tx) (e := e) z
        have b := q2 w hw'
        have hl8 := lnA_le (tx := tx) (e := e) hw i w hw'
        refine ⟨?_, fun j hj => ?_⟩
        · rw [u_c (by omega), u_c (by omega), u_j z, s1 142 (by simp), b.1, o.1]
        · rw [o.1] at hj
          rw [u_c (by omega), u_c (by omega), u_c (by omega), s2 _ (by omega), b.2 j hj, o.2.1]
    · rw [u_c (by omega)]
      by_cases z : j = (aBk A).1 + i
      · rw [z, u_at, a1.2.2]
      · rw [u_j z, u_c (by omega), s1 143 (by simp), q3 j hj, (ad_old (A := A) (tx := tx) (e := e) z).2.2]) K ⟨exc.rf, fun _ _ => rfl, h0⟩
  exact ⟨K', e1, p⟩
/-- the picture with n more words -/
def wrA (A : aP) (n : Nat) : aP := ((0, (aTx A).2), aRw A, ((aBk A).1 + n, lnA A (aTx A).2 (aTx A).1 n, lgA A (aTx A).2 (aTx A).1 n), sAd A (aTx A).2 (aTx A).1 n, aRl A, (0, (aUn A).2), (fun _ => false, (aKp A).2), aNt A)
theorem wrA_wf (hw : wfA A) {n : Nat} (hn : (aBk A).1 + n ≤ 8) (hs : ∀ i, i < n → sdL (aTx A).2 (psL (aTx A).2 (aTx A).1 i) (rnL (aTx A).2 (aTx A).1 (psL (aTx A).2 (aTx A).1 i)) = true) : wfA (wrA A n) := by
  obtain ⟨w1, w2, w3, w4, w5, w6, w7, w8⟩ := hw
  refine ⟨⟨Nat.zero_le _, fun j hj => absurd hj (Nat.not_lt_zero _)⟩, w2, ⟨hn, fun w hw' => ⟨?_, fun z => ?_, fun z => ?_, fun i hi => ?_⟩⟩, fun j hj h25 => ?_, w5, ⟨Nat.zero_le _, fun i hi => absurd hi (Nat.not_lt_zero _)⟩, fun i hi z => (by cases z), w8.1, fun i hi => ?_⟩
  · exact lnA_le ⟨w1, w2, w3, w4, w5, w6, w7, w8⟩ n w hw'
  · show 1 ≤ lnA A (aTx A).2 (aTx A).1 n w
    have z' : w < (aBk A).1 + n := z
    unfold lnA
    split
    · rename_i c
      have := hs (w - (aBk A).1) (by omega)
      unfold sdL at this
      rw [decide_eq_true_iff] at this
      omega
    · exact (w3.2 w hw').2.1 (by omega)
  · show lnA A (aTx A).2 (aTx A).1 n w = 0
    have z' : (aBk A).1 + n ≤ w := z
    unfold lnA
    rw [if_neg (by omega)]
    exact (w3.2 w hw').2.2.1 (by omega)
  · exact lgA_lt ⟨w1, w2, w3, w4, w5, w6, w7, w8⟩ w1.2 hw' hi
  · have b0 := w4 j hj h25
    by_cases c : (aBk A).1 ≤ j ∧ j < (aBk A).1 + n
    · have hm : mkL (aTx A).2 (psL (aTx A).2 (aTx A).1 (j - (aBk A).1)) (rnL (aTx A).2 (aTx A).1 (psL (aTx A).2 (aTx A).1 (j - (aBk A).1))) < 2 ^ rnL (aTx A).2 (aTx A).1 (psL (aTx A).2 (aTx A).1 (j - (aBk A).1)) := msk_lt _ _
      have hr8 := rnL_le (aTx A).2 (aTx A).1 (psL (aTx A).2 (aTx A).1 (j - (aBk A).1))
      have h256 := pw8 hr8
      have es : aS (wrA A n) j = nI (mkL (aTx A).2 (psL (aTx A).2 (aTx A).1 (j - (aBk A).1)) (rnL (aTx A).2 (aTx A).1 (psL (aTx A).2 (aTx A).1 (j - (aBk A).1)))) := if_pos c
      have eu := uO_nI es (by omega)
      refine ⟨by rw [eu]; exact es, ?_⟩
      rw [eu]
      show _ < bnd (lnA A (aTx A).2 (aTx A).1 n) j
      unfold bnd lnA
      rw [if_pos (show j < 8 by omega), if_pos c]
      exact hm
    · have es : aS (wrA A n) j = aS A j := if_neg c
      have eu : uO (aS (wrA A n)) j = uO (aS A) j := by unfold uO; rw [es]
      refine ⟨by rw [eu, es]; exact b0.1, ?_⟩
      rw [eu]
      have eb : bnd (aBk (wrA A n)).2.1 j = bnd (aBk A).2.1 j := by
        show bnd (lnA A (aTx A).2 (aTx A).1 n) j = _
        unfold bnd lnA
        rw [if_neg c]
      rw [eb]
      exact b0.2
  · have := w8.2 i hi
    exact ⟨by show _ < (aBk A).1 + n; have := this.1; show (aNt A).2.1 i < _; omega, by have := this.2.1; show (aNt A).2.2.1 i < (aBk A).1 + n; omega, this.2.2⟩
theorem invC.wd (hi : invC I L A) {n : Nat} (hn : (aBk A).1 + n ≤ 8) (hw : wfA A) (hf : ∀ a, a ∉ (1 :: 25 :: 28 :: aX) → K a = I a) (h1 : K 1 1 = 0) (hl : leC K A (aTx A).2 (aTx A).1 n) (h25 : K 25 3 = I 25 3) (h25' : K 25 4 = 0) (h28 : ∀ i, i < 3 → K 28 i = 0) : invC K L (wrA A n) := by
  obtain ⟨i1, i2, i3, i4, i5, i6, i7, i8, i9⟩ := hi
  refine ⟨⟨h1, fun j hj => absurd hj (Nat.not_lt_zero _)⟩, i2.of (by rw [hf 3 (by simp)]) rfl, ⟨⟨hl.1, hn, fun w hw' => ⟨(hl.2.1 w hw').1, lnA_le hw _ _ hw', fun i hi => ⟨(hl.2.1 w hw').2.1 i hi, lgA_lt hw hw.1.2 hw' hi⟩⟩⟩, hl.2.2⟩, ⟨fun w hw' => ⟨(hl.2.1 w hw').2.2, ?_, ?_⟩, ?_, ?_, ?_⟩, ?_, ?_, fun i hi => ⟨by rw [h28 i hi]; rfl, fun z => by cases z⟩, i8.fr (fun a h6 h7 => hf a (by simp <;> omega)), fun w hw' => by rw [hf 127 (by simp)]; exact i9 w hw'⟩
  · rw [hf 19 (by simp), (i4.1 w hw').2.1]; exact (if_neg (by omega)).symm
  · rw [hf 20 (by simp), (i4.1 w hw').2.2]; exact (if_neg (by omega)).symm
  · rw [hf 17 (by simp), i4.2.1]; exact (if_neg (by omega)).symm
  · rw [hf 17 (by simp), i4.2.2.1]; exact (if_neg (by omega)).symm
  · rw [hf 17 (by simp), i4.2.2.2]; exact (if_neg (by omega)).symm
  · show rlC 101 K _ _
    unfold rlC
    rw [hf 101 (by simp), hf 102 (by simp)]
    exact i5
  · obtain ⟨a, ha, b1, _⟩ := i6
    exact ⟨a, ha, h25.trans b1, h25', Nat.zero_le _, fun i hi => absurd hi (Nat.not_lt_zero _)⟩
theorem invM.wd (hi : invM I L A) {n : Nat} (hn0 : 0 < n) (hn : (aBk A).1 + n ≤ 8) (hw : wfA A) (hf : ∀ a, ¬ scM a → a ≠ 141 → a ≠ 142 → a ≠ 143 → K a = I a) (h10 : K 139 10 = 0) (h26 : K 139 26 = 0) (h4 : K 139 4 = I 139 4 + 1) (h9 : ∀ j, (j = 1 ∨ j = 20 ∨ j = 35) → K 139 j = I 139 j) (hl : leM K A (aTx A).2 (aTx A).1 n) : invM K L (wrA A n) := by
  obtain ⟨i1, i2, i3, i4, i5, i6, ⟨ch, i7, i8, i8'⟩, i9⟩ := hi
  have f : ∀ a, (a = 149 ∨ (162 ≤ a ∧ a < 165) ∨ a = 171 ∨ a = 172) → K a = I a := fun a ha => hf a (by unfold scM; omega) (by omega) (by omega) (by omega)
  refine ⟨⟨h10, fun j hj => absurd hj (Nat.not_lt_zero _)⟩, i2.of (h9 1 (by omega)) rfl, ⟨hl.1, hn, fun w hw' => ⟨(hl.2.1 w hw').1, lnA_le hw _ _ hw', fun i hi => ⟨(hl.2.1 w hw').2 i hi, lgA_lt hw hw.1.2 hw' hi⟩⟩⟩, fun j hj => by rw [Nat.zero_add]; exact hl.2.2 j hj, i5.th (f 149 (by omega)) (h9 20 (by omega)), ⟨h26, Nat.zero_le _, fun i hi => absurd hi (Nat.not_lt_zero _)⟩, ⟨ch + 1, by show ch + 1 ≤ (aBk A).1 + n; omega, ?_, fun i hi => ?_⟩, i9.fr (h9 35 (by omega)) (fun a h6 h7 => f a (by omega))⟩
  · rw [h4, i8]; exact q_add ch 1
  · obtain ⟨q, kc, k1, k2, k3, _⟩ := i8' i hi
    refine ⟨q, kc, by rw [f 171 (by omega)]; exact k1, by rw [f 172 (by omega)]; exact k2, by omega, ?_, fun z => by cases z⟩
    rw [decide_eq_false (show ¬ kc = ch + 1 by omega), Bool.and_false]; rfl
end WD

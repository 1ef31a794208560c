/-! Lines, added. -/
theorem x_rws {h : Bool × Nat × Nat} {I : Nat → Nat → Int32} {L : Nat → Nat → Int64} {w i : Nat} (hw : w < 8) (hi : i < 8) {v : Int32} (k : (Nat → Nat → Int32) → Option ev_R) : ev_sI (ev_mk h I L) (ev_rv (ev_R0 6 w)) (nI i) v k = k (ev_up I (7 + w) i v) := by
  have e : ∀ c : Nat, (if ev_in (nI i) 8 then k (ev_up I c (nI i).toNatClampNeg v) else none) = k (ev_up I c i v) := by
    intro c
    rw [q_in (by omega), if_pos (by simpa using hi), q_cl (by omega)]
  match w, hw with
  | 0, _ => exact e 7
  | 1, _ => exact e 8
  | 2, _ => exact e 9
  | 3, _ => exact e 10
  | 4, _ => exact e 11
  | 5, _ => exact e 12
  | 6, _ => exact e 13
  | 7, _ => exact e 14
section AD
variable {h : Bool × Nat × Nat} {I J K : Nat → Nat → Int32} {L : Nat → Nat → Int64} {A : aP} {tx : Nat → Nat} {e : Nat}
/-- the words after n lines -/
def lnA (A : aP) (tx : Nat → Nat) (e n w : Nat) : Nat := if (aBk A).1 ≤ w ∧ w < (aBk A).1 + n then rnL tx e (psL tx e (w - (aBk A).1)) else (aBk A).2.1 w
def lgA (A : aP) (tx : Nat → Nat) (e n w j : Nat) : Nat := if (aBk A).1 ≤ w ∧ w < (aBk A).1 + n then ltr (tx (psL tx e (w - (aBk A).1) + j)) else (aBk A).2.2 w j
def sAd (A : aP) (tx : Nat → Nat) (e n j : Nat) : Int32 := if (aBk A).1 ≤ j ∧ j < (aBk A).1 + n then nI (mkL tx (psL tx e (j - (aBk A).1)) (rnL tx e (psL tx e (j - (aBk A).1)))) else aS A j
theorem ad_new {n : Nat} : lnA A tx e (n + 1) ((aBk A).1 + n) = rnL tx e (psL tx e n) ∧ (∀ j, lgA A tx e (n + 1) ((aBk A).1 + n) j = ltr (tx (psL tx e n + j))) ∧ sAd A tx e (n + 1) ((aBk A).1 + n) = nI (mkL tx (psL tx e n) (rnL tx e (psL tx e n))) := by
  have c : (aBk A).1 ≤ (aBk A).1 + n ∧ (aBk A).1 + n < (aBk A).1 + (n + 1) := by omega
  have s : (aBk A).1 + n - (aBk A).1 = n := by omega
  refine ⟨?_, fun j => ?_, ?_⟩
  · unfold lnA; rw [if_pos c, s]
  · unfold lgA; rw [if_pos c, s]
  · unfold sAd; rw [if_pos c, s]
theorem ad_old {n w : Nat} (hw : w ≠ (aBk A).1 + n) : lnA A tx e (n + 1) w = lnA A tx e n w ∧ (∀ j, lgA A tx e (n + 1) w j = lgA A tx e n w j) ∧ sAd A tx e (n + 1) w = sAd A tx e n w := by
  have c : ((aBk A).1 ≤ w ∧ w < (aBk A).1 + (n + 1)) = ((aBk A).1 ≤ w ∧ w < (aBk A).1 + n) := propext (by omega)
  refine ⟨?_, fun j => ?_, ?_⟩
  · unfold lnA; simp only [c]
  · unfold lgA; simp only [c]
  · unfold sAd; simp only [c]
theorem ad_0 (hw : wfA A) {n : Nat} (hn : (aBk A).1 + n < 8) : lnA A tx e n ((aBk A).1 + n) = 0 ∧ sAd A tx e n ((aBk A).1 + n) = nI 0 := by
  have c : ¬ ((aBk A).1 ≤ (aBk A).1 + n ∧ (aBk A).1 + n < (aBk A).1 + n) := by omega
  have hB := hw.2.2.1.2 ((aBk A).1 + n) hn
  have h0 := hB.2.2.1 (by omega)
  have hs := hw.2.2.2.1.u (w := (aBk A).1 + n) hn
  rw [h0] at hs
  refine ⟨?_, ?_⟩
  · unfold lnA; rw [if_neg c]; exact h0
  · unfold sAd; rw [if_neg c, hs.1]
    have := hs.2
    rw [show uO (aS A) ((aBk A).1 + n) = 0 by omega]
/-- n lines are in -/
def leC (K : Nat → Nat → Int32) (A : aP) (tx : Nat → Nat) (e n : Nat) : Prop := K 5 3 = nI ((aBk A).1 + n) ∧ (∀ w, w < 8 → K 15 w = nI (lnA A tx e n w) ∧ (∀ j, j < lnA A tx e n w → K (7 + w) j = nI (lgA A tx e n w j)) ∧ K 18 w = sAd A tx e n w) ∧ ∀ w, w < (aBk A).1 + n → K 16 w = nI (cod (looks (lgA A tx e n w) (lnA A tx e n w) 0 0))
/-- n lines and j letters are in -/
def liC (K : Nat → Nat → Int32) (A : aP) (tx : Nat → Nat) (e n j : Nat) : Prop := K 5 3 = nI ((aBk A).1 + n) ∧ (∀ w, w < 8 → w ≠ (aBk A).1 + n → K 15 w = nI (lnA A tx e n w) ∧ (∀ j, j < lnA A tx e n w → K (7 + w) j = nI (lgA A tx e n w j)) ∧ K 18 w = sAd A tx e n w) ∧ (K 15 ((aBk A).1 + n) = nI j ∧ (∀ a, a < j → K (7 + ((aBk A).1 + n)) a = nI (ltr (tx (psL tx e n + a)))) ∧ K 18 ((aBk A).1 + n) = nI (mkL tx (psL tx e n) j)) ∧ ∀ w, w < (aBk A).1 + n → K 16 w = nI (cod (looks (lgA A tx e n w) (lnA A tx e n w) 0 0))
theorem leC.li (hw : wfA A) {n : Nat} (hn : (aBk A).1 + n < 8) (hl : leC K A tx e n) : liC K A tx e n 0 := by
  have h0 := ad_0 (tx := tx) (e := e) hw hn
  have h1 := hl.2.1 _ hn
  exact ⟨hl.1, fun w hw' _ => hl.2.1 w hw', ⟨by rw [h1.1, h0.1], fun a ha => absurd ha (by omega), by rw [h1.2.2, h0.2]; rfl⟩, hl.2.2⟩
abbrev aX : List Nat := [5, 7, 8, 9, 10, 11, 12, 13, 14, 15, 16, 18]
theorem c_letter (d : Nat) {t : Nat × (Nat → Nat)} (h8 : t.1 ≤ 80) (ht : txC K t) (h2 : ∀ j, j < t.1 → t.2 j < 256) (he : e ≤ t.1) {n j : Nat} (hn : (aBk A).1 + n < 8) (hj : j < rnL t.2 e (psL t.2 e n)) (hl : liC K A t.2 e n j) {x3 : Int32} : ∃ K', ev_at (d + 1) M_Book_takeLines 8 [.ref 5, .ref 1, .ref 17, .int x3, .int (nI (psL t.2 e n + j)), .float 0, .float 0] [] (ev_mk h K L) = ev_at (d + 1) M_Book_takeLines 8 [.ref 5, .ref 1, .ref 17, .int x3, .int (nI (psL t.2 e n + (j + 1))), .float 0, .float 0] [] (ev_mk h K' L) ∧ exc aX K K' ∧ liC K' A t.2 e n (j + 1) := by
  obtain ⟨g1, g2⟩ := rnL_in hj
  have hr8 := rnL_le t.2 e (psL t.2 e n)
  have hc := h2 (psL t.2 e n + j) (by omega)
  have h59 : t.2 (psL t.2 e n + j) ≠ 59 := fun z => by rw [z, lr59] at g2; cases g2
  obtain ⟨l1, l2, ⟨l3, l4, l5⟩, l6⟩ := hl
  have hml : mkL t.2 (psL t.2 e n) j < 256 := Nat.lt_of_lt_of_le (msk_lt _ j) (pw8 (by omega))
  have hin : ev_in (nI ((aBk A).1 + n)) 8 = true := by rw [q_in (by omega)]; simpa using hn
  refine ⟨ev_up (ev_up (ev_up K (7 + ((aBk A).1 + n)) j (nI (ltr (t.2 (psL t.2 e n + j))))) 18 ((aBk A).1 + n) (nI (mkL t.2 (psL t.2 e n) (j + 1)))) 15 ((aBk A).1 + n) (nI (j + 1)), ?_, ((exc.rf.up (by simp <;> omega)).up (by simp)).up (by simp), ?_, fun w hw' hne => ?_, ⟨u_at _ _ _ _, fun a ha => ?_, ?_⟩, fun w hw' => ?_⟩
  · have e116 : ∀ y0 : Int32, nI (mkL t.2 (psL t.2 e n) j) ||| y0 = nI (mkL t.2 (psL t.2 e n) (j + 1)) → ev_at (d + 1) M_Book_takeLines 116 [.ref 5, .ref 1, .ref 17, .int x3, .int (nI (psL t.2 e n + j)), .float 0, .float 0] [.int y0, .int (nI (mkL t.2 (psL t.2 e n) j)), .int (nI ((aBk A).1 + n)), .ref 18] (ev_mk h (ev_up K (7 + ((aBk A).1 + n)) j (nI (ltr (t.2 (psL t.2 e n + j))))) L) = ev_at (d + 1) M_Book_takeLines 8 [.ref 5, .ref 1, .ref 17, .int x3, .int (nI (psL t.2 e n + (j + 1))), .float 0, .float 0] [] (ev_mk h (ev_up (ev_up (ev_up K (7 + ((aBk A).1 + n)) j (nI (ltr (t.2 (psL t.2 e n + j))))) 18 ((aBk A).1 + n) (nI (mkL t.2 (psL t.2 e n) (j + 1)))) 15 ((aBk A).1 + n) (nI (j + 1))) L) := by
      intro y0 hy
      rw [e_Book_takeLines_116, u_c (a := 5) (by omega), l1, hin, if_pos rfl, if_pos rfl, if_pos rfl, q_cl (by omega), u_c (a := 15) (by omega), l3, hy, show nI j + 1 = nI (j + 1) from q_add j 1, show nI (psL t.2 e n + j) + 1 = nI (psL t.2 e n + (j + 1)) from q_add (psL t.2 e n + j) 1]
    rw [e_Book_takeLines_8, ht.1, if_pos ((q_lt (by omega) (by omega)).mpr (by omega)), c_sgn d ht h8 h2 (by omega), k_I, k_1, k_2, k_3, if_neg (show ¬ nI (t.2 (psL t.2 e n + j)) = 59 from fun z => h59 ((q_eq (b := 59) (by omega) (by omega)).mp z)), l1, if_pos (show nI ((aBk A).1 + n) < 8 from (q_lt (b := 8) (by omega) (by omega)).mpr hn), hin, if_pos rfl, q_cl (by omega), l3, if_pos (show nI j < 8 from (q_lt (b := 8) (by omega) (by omega)).mpr (by omega)), if_pos rfl, if_pos rfl, c_letterOf d hc, k_I, k_1, k_2, k_3, x_rws hn (by omega), u_c (a := 5) (by omega), l1, hin, if_pos rfl, c_isSaid d hc g2, k_I, k_1, k_2, k_3, if_pos g2, q_cl (by omega), u_c (a := 18) (by omega), l5]
    cases hlt : isLt (t.2 (psL t.2 e n + j)) with
    | true =>
      rw [if_neg (show ¬ fl true = 0 by decide)]
      refine e116 0 ?_
      rw [show (0 : Int32) = nI 0 from rfl, fa_or]
      congr 1
      show mkL t.2 (psL t.2 e n) j ||| 0 = mkL t.2 (psL t.2 e n) j ||| (if slL t.2 (psL t.2 e n) j = true then 2 ^ j else 0)
      rw [show slL t.2 (psL t.2 e n) j = false by unfold slL; rw [hlt]; rfl]; rfl
    | false =>
      rw [if_pos (show fl false = 0 from rfl)]
      refine e116 _ ?_
      rw [show (1 : Int32) <<< (nI j &&& 31) = nI (2 ^ j) from z_shl (by omega), fa_or]
      congr 1
      show mkL t.2 (psL t.2 e n) j ||| 2 ^ j = mkL t.2 (psL t.2 e n) j ||| (if slL t.2 (psL t.2 e n) j = true then 2 ^ j else 0)
      rw [show slL t.2 (psL t.2 e n) j = true by unfold slL; rw [hlt]; rfl]; rfl
  · rw [u_c (by omega), u_c (by omega), u_c (by omega)]; exact l1
  · have b := l2 w hw' hne
    refine ⟨?_, fun a ha => ?_, ?_⟩
    · rw [u_j hne, u_c (by omega), u_c (by omega)]; exact b.1
    · rw [u_c (by omega), u_c (by omega), u_c (by omega)]; exact b.2.1 a ha
    · rw [u_c (by omega), u_j hne, u_c (by omega)]; exact b.2.2
  · rw [u_c (by omega), u_c (by omega)]
    by_cases z : a = j
    · rw [z, u_at]
    · rw [u_j z]; exact l4 a (by omega)
  · rw [u_c (by omega), u_at]
  · rw [u_c (by omega), u_c (by omega), u_c (by omega)]; exact l6 w hw'
theorem lnA_le (hw : wfA A) (n w : Nat) (hw8 : w < 8) : lnA A tx e n w ≤ 8 := by
  unfold lnA
  split
  · exact rnL_le _ _ _
  · exact (hw.2.2.1.2 w hw8).1
theorem lgA_lt (hw : wfA A) (h2 : ∀ j, j < e → tx j < 256) {n w j : Nat} (hw8 : w < 8) (hj : j < lnA A tx e n w) : lgA A tx e n w j < 8 := by
  unfold lnA at hj
  unfold lgA
  split
  · rename_i c
    rw [if_pos c] at hj
    obtain ⟨g1, g2⟩ := rnL_in hj
    exact ltr_lt _ (h2 _ g1) g2
  · rename_i c
    rw [if_neg c] at hj
    exact (hw.2.2.1.2 w hw8).2.2.2 j hj
theorem c_closeLine (d : Nat) (hw : wfA A) (h2 : ∀ j, j < e → tx j < 256) {n : Nat} (hn : (aBk A).1 + n < 8) (hl : liC K A tx e n (rnL tx e (psL tx e n))) : ∃ K', ev_do (d + 2) M_Book_closeLine [.ref 5] (ev_mk h K L) = ev_rn (ev_mk h K' L) ∧ exc aX K K' ∧ leC K' A tx e (n + 1) := by
  obtain ⟨l1, l2, ⟨l3, l4, l5⟩, l6⟩ := hl
  have a1 := ad_new (A := A) (tx := tx) (e := e) (n := n)
  have hB : bkC K ((aBk A).1 + n) (lnA A tx e (n + 1)) (lgA A tx e (n + 1)) := by
    refine ⟨l1, by omega, fun w hw' => ?_⟩
    by_cases z : w = (aBk A).1 + n
    · refine ⟨by rw [z, l3, a1.1], lnA_le hw _ _ hw', fun i hi => ⟨?_, lgA_lt hw h2 hw' hi⟩⟩
      rw [z, a1.2.1]
      rw [z, a1.1] at hi
      exact l4 i hi
    · have o := ad_old (A := A) (tx := tx) (e := e) z
      have b := l2 w hw' z
      refine ⟨by rw [b.1, o.1], lnA_le hw _ _ hw', fun i hi => ⟨?_, lgA_lt hw h2 hw' hi⟩⟩
      rw [o.2.1]
      rw [o.1] at hi
      exact b.2.1 i hi
  have eb := c_Book_bare (h := h) (L := L) d hB (w := (aBk A).1 + n) (g := 0) hn
  have el : look (lgA A tx e (n + 1) ((aBk A).1 + n)) (fun i => Nat.testBit 0 i) (lnA A tx e (n + 1) ((aBk A).1 + n)) = looks (lgA A tx e (n + 1) ((aBk A).1 + n)) (lnA A tx e (n + 1) ((aBk A).1 + n)) 0 0 := look_congr (fun j _ => by simp)
  rw [el] at eb
  refine ⟨ev_up (ev_up K 16 ((aBk A).1 + n) (nI (cod (looks (lgA A tx e (n + 1) ((aBk A).1 + n)) (lnA A tx e (n + 1) ((aBk A).1 + n)) 0 0)))) 5 3 (nI ((aBk A).1 + (n + 1))), ?_, (exc.rf.up (by simp)).up (by simp), u_at _ _ _ _, fun w hw' => ?_, fun w hw' => ?_⟩
  · rw [e_Book_closeLine_0, l1, if_pos (show nI ((aBk A).1 + n) < 8 from (q_lt (b := 8) (by omega) (by omega)).mpr hn), show (.int 0 : Value) = .int (nI 0) from rfl, eb, k_I, k_1, k_2, k_3, q_in (by omega), if_pos (by simp <;> omega), q_cl (by omega), l1, show nI ((aBk A).1 + n) + 1 = nI ((aBk A).1 + (n + 1)) from q_add ((aBk A).1 + n) 1]
  · have b := hB.2.2 w hw'
    refine ⟨?_, fun j hj => ?_, ?_⟩
    · rw [u_c (by omega), u_c (by omega)]; exact b.1
    · rw [u_c (by omega), u_c (by omega)]; exact (b.2.2 j hj).1
    · rw [u_c (by omega), u_c (by omega)]
      by_cases z : w = (aBk A).1 + n
      · rw [z, l5, a1.2.2]
      · rw [(l2 w hw' z).2.2, (ad_old (A := A) (tx := tx) (e := e) z).2.2]
  · rw [u_c (by omega)]
    by_cases z : w = (aBk A).1 + n
    · rw [z, u_at]
    · have o := ad_old (A := A) (tx := tx) (e := e) z
      rw [u_j z, l6 w (by omega), o.1, show lgA A tx e (n + 1) w = lgA A tx e n w from funext o.2.1]
theorem c_takeLines (d : Nat) (hw : wfA A) {t : Nat × (Nat → Nat)} (h8 : t.1 ≤ 80) (h2 : ∀ j, j < t.1 → t.2 j < 256) (ht : txC K t) (h0 : leC K A t.2 t.1 0) {i : Nat} (hg : ∀ i', i' < i → goL t.2 t.1 (aBk A).1 i') (hn : enL t.2 t.1 (aBk A).1 i) : ∃ K', ev_do (d + 4) M_Book_takeLines [.ref 5, .ref 1, .ref 17] (ev_mk h K L) = ev_ri (nI (i + 1)) (ev_mk h K' L) ∧ exc aX K K' ∧ leC K' A t.2 t.1 (i + 1) := by
  have tC : ∀ K', exc aX K K' → txC K' t := fun K' x => ⟨by rw [x 1 (by simp)]; exact ht.1, fun j hj => by rw [x 2 (by simp)]; exact ht.2 j hj⟩
  have ln : ∀ n K1, (aBk A).1 + n < 8 → exc aX K K1 → leC K1 A t.2 t.1 n → ∃ K2, ev_at (d + 3) M_Book_takeLines 8 [.ref 5, .ref 1, .ref 17, .int (nI (aBk A).1), .int (nI (psL t.2 t.1 n)), .float 0, .float 0] [] (ev_mk h K1 L) = ev_at (d + 3) M_Book_takeLines 8 [.ref 5, .ref 1, .ref 17, .int (nI (aBk A).1), .int (nI (psL t.2 t.1 n + rnL t.2 t.1 (psL t.2 t.1 n))), .float 0, .float 0] [] (ev_mk h K2 L) ∧ exc aX K K2 ∧ liC K2 A t.2 t.1 n (rnL t.2 t.1 (psL t.2 t.1 n)) := by
    intro n K1 hn8 x1 hl
    obtain ⟨K2, e2, x2, l2⟩ := lpF (F := fun j K' => ev_at (d + 3) M_Book_takeLines 8 [.ref 5, .ref 1, .ref 17, .int (nI (aBk A).1), .int (nI (psL t.2 t.1 n + j)), .float 0, .float 0] [] (ev_mk h K' L)) (fun j K' => exc aX K K' ∧ liC K' A t.2 t.1 n j) (rnL t.2 t.1 (psL t.2 t.1 n)) (fun j K' hj ⟨p1, p2⟩ => by
      obtain ⟨K'', a1, a2, a3⟩ := c_letter (h := h) (L := L) (d + 2) h8 (tC K' p1) h2 (Nat.le_refl _) hn8 hj p2 (x3 := nI (aBk A).1)
      exact ⟨K'', a1, p1.tr a2, a3⟩) K1 ⟨x1, hl.li hw hn8⟩
    exact ⟨K2, e2, x2, l2⟩
  have st : ∀ i, (∀ i', i' < i → goL t.2 t.1 (aBk A).1 i') → ∃ K1, ev_at (d + 3) M_Book_takeLines 8 [.ref 5, .ref 1, .ref 17, .int (nI (aBk A).1), .int (nI 0), .float 0, .float 0] [] (ev_mk h K L) = ev_at (d + 3) M_Book_takeLines 8 [.ref 5, .ref 1, .ref 17, .int (nI (aBk A).1), .int (nI (psL t.2 t.1 i)), .float 0, .float 0] [] (ev_mk h K1 L) ∧ exc aX K K1 ∧ leC K1 A t.2 t.1 i := by
    intro i
    induction i with
    | zero => intro _; exact ⟨K, rfl, exc.rf, h0⟩
    | succ i ih =>
      intro hg
      have g := hg i (by omega)
      have g3 := g.2.2.1
      obtain ⟨K1, e1, x1, l1⟩ := ih (fun i' hi' => hg i' (by omega))
      obtain ⟨K2, e2, x2, l2⟩ := ln i K1 g.1 x1 l1
      obtain ⟨K3, e3, x3, l3⟩ := c_closeLine (h := h) (L := L) (d + 1) hw h2 g.1 l2
      refine ⟨K3, e1.trans (e2.trans ?_), x2.tr x3, l3⟩
      rw [e_Book_takeLines_8, (tC K2 x2).1, if_pos ((q_lt (by omega) (by omega)).mpr g3), c_sgn (d + 2) (tC K2 x2) h8 h2 g3, k_I, k_1, k_2, k_3, if_pos (show nI (t.2 (psL t.2 t.1 i + rnL t.2 t.1 (psL t.2 t.1 i))) = 59 by rw [g.2.2.2]; rfl), e3, k_V, k_1, k_2, k_3, show nI (psL t.2 t.1 i + rnL t.2 t.1 (psL t.2 t.1 i)) + 1 = nI (psL t.2 t.1 (i + 1)) from q_add _ 1]
  obtain ⟨K1, e1, x1, l1⟩ := st i hg
  obtain ⟨K2, e2, x2, l2⟩ := ln i K1 hn.1 x1 l1
  obtain ⟨K3, e3, x3, l3⟩ := c_closeLine (h := h) (L := L) (d + 1) hw h2 hn.1 l2
  refine ⟨K3, ?_, x2.tr x3, l3⟩
  rw [e_Book_takeLines_0, show K 5 3 = nI (aBk A).1 from h0.1]
  refine e1.trans (e2.trans ?_)
  rw [e_Book_takeLines_8, (tC K2 x2).1, hn.2.2, if_neg (fun z => absurd ((q_lt (by omega) (by omega)).mp z) (by omega)), e3, k_V, k_1, k_2, k_3, l3.1, q_sub (by omega), show (aBk A).1 + (i + 1) - (aBk A).1 = i + 1 by omega]
end AD

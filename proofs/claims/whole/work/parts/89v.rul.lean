/-! rule, both. -/
section RW
variable {h : Bool × Nat × Nat} {d : Nat} {I I' J K : Nat → Nat → Int32} {L : Nat → Nat → Int64} {A : aP}
def rlN (t : Nat × (Nat → Nat)) : Nat × (Nat → Nat) := ((rlL t).length, fun j => (rlL t).getD j 0)
theorem rlV_or (t : Nat × (Nat → Nat)) : rlV t = 0 ∨ ∃ P, P ≤ 40 ∧ rlV t = -1 - nI P := by
  have g := pr_go t.2 (min 40 t.1) 400 0 0 0 [] (Nat.zero_le _)
  have hq : (rlQ t).2.1 ≤ 40 := by
    unfold rlQ
    split
    · exact Nat.zero_le _
    · omega
  unfold rlV
  split
  · exact Or.inr ⟨40, Nat.le_refl _, rfl⟩
  · split
    · exact Or.inl rfl
    · exact Or.inr ⟨_, hq, rfl⟩
theorem m1_2 : ∀ P, P < 41 → (-1 : Int32) - (-1 - nI P) = nI P := by decide +kernel
theorem map_gd {l : List Nat} {j : Nat} (hj : j < l.length) : (l.map cT).getD j 0 = cT (l.getD j 0) := by
  simp [List.getD, List.getElem?_eq_getElem hj]
theorem invC.rl2 (hi : invC I L A) {R : Nat × (Nat → Nat)} (hf : ∀ a, a ≠ 101 → a ≠ 102 → I' a = I a) (hR : rlC 101 I' R.2 R.1) : invC I' L (sRl A R) := by
  obtain ⟨h1, h2, h3, h4, h5, h6, h7, h8, h9⟩ := hi
  refine ⟨?_, h2.of (by rw [hf 3 (by omega) (by omega)]) rfl, h3.fr (fun a ha => hf a (by omega) (by omega)), h4.fr (fun a h6 h7 => hf a (by omega) (by omega)), hR, h6.fr (fun a ha => hf a (by omega) (by omega)), h7.fr (fun a ha => hf a (by omega) (by omega)), h8.fr (fun a h6 h7 => hf a (by omega) (by omega)), fun w hw => by rw [hf 127 (by omega) (by omega)]; exact h9 w hw⟩
  show txC I' (aTx A)
  unfold txC; rw [hf 1 (by omega) (by omega), hf 2 (by omega) (by omega)]; exact h1
theorem invM.rl2 (hi : invM I L A) {R : Nat × (Nat → Nat)} (x : exc [139, 149] I I') (hn : ∀ j, j ≠ 20 → I' 139 j = I 139 j) (hR : rlM2 I' R.2 R.1) : invM I' L (sRl A R) := by
  obtain ⟨h1, h2, h3, h4, h5, h6, ⟨ch, h7, h8⟩, h9⟩ := hi
  refine ⟨?_, h2.of (hn 1 (by omega)) rfl, ?_, h4.fr (x 143 (by simp)), hR, ⟨(hn 26 (by omega)).trans h6.1, h6.2.1, fun i hi => (h6.2.2 i hi).fr (x 155 (by simp))⟩, ⟨ch, h7, (hn 4 (by omega)).trans h8.1, fun i hi => ?_⟩, h9.fr (hn 35 (by omega)) (fun a h6 h7 => x a (by simp; omega))⟩
  · show txM I' (aTx A)
    unfold txM; rw [hn 10 (by omega), x 145 (by simp)]; exact h1
  · show bkM I' _ _ _
    unfold bkM; rw [hn 3 (by omega), x 142 (by simp), x 141 (by simp)]; exact h3
  · obtain ⟨q, kc, k1, k2, k3, k4, k5⟩ := h8.2 i hi
    exact ⟨q, kc, by rw [x 171 (by simp)]; exact k1, by rw [x 172 (by simp)]; exact k2, k3, k4, fun z => (k5 z).fr (x 173 (by simp))⟩
theorem wfA.rl2 (hw : wfA A) {R : Nat × (Nat → Nat)} (hR : okT R.2 R.1) : wfA (sRl A R) := ⟨hw.1, hw.2.1, hw.2.2.1, hw.2.2.2.1, hR, hw.2.2.2.2.2⟩
/-- the class reads a rule -/
theorem xRd (d : Nat) (hw : wfA A) (hi : invC I L A) : ∃ K, ev_do (d + 10) M_Rule_read [.ref 105, .ref 1] (ev_mk h I L) = ev_ri (-1 - rlV (aTx A)) (ev_mk h K L) ∧ exc [105, 106, 107, 108] I K ∧ invC (ev_up K 1 1 0) L (nT A) ∧ (rlV (aTx A) = 0 → rlC 105 (ev_up K 1 1 0) (rlN (aTx A)).2 (rlN (aTx A)).1) := by
  obtain ⟨K, e1, x1, c1⟩ := c_readC (h := h) (L := L) d hi.1 hw.1.1 hw.1.2
  have hK : invC K L A := hi.q (t := aRw A) (frC.rf.x x1 (by simp [scC])) (hi.2.1.of (by rw [x1 3 (by simp)]) rfl)
  refine ⟨K, e1, x1, hK.nT, fun hv => ?_⟩
  have c := c1 hv
  refine ⟨?_, fun j hj => ?_⟩
  · rw [u_c (by omega), c.1, List.length_map]; rfl
  · have hj' : j < (rlL (aTx A)).length := hj
    show ev_up K 1 1 0 106 j = cT ((rlL (aTx A)).getD j 0)
    rw [u_c (by omega), c.2 j (by rw [List.length_map]; exact hj'), map_gd hj']
/-- the reference reads a rule -/
theorem xRr (d : Nat) (hw : wfA A) (hi : invM I L A) : ∃ K, ev_do (d + 98) M_Mo_readsRule [.ref 139] (ev_mk h I L) = ev_ri (rlV (aTx A)) (ev_mk h K L) ∧ exc [139, 150] I K ∧ invM K L (nT A) ∧ tkM K (rlQ (aTx A)).2.2 := by
  obtain ⟨K, e1, t1, z1, x1, n1⟩ := c_readsRule (h := h) (L := L) d hi.1 hw.1.1 hw.1.2
  refine ⟨K, e1, x1, hi.tx (fun a ha => x1 a (by unfold scM at ha; simp <;> omega)) (fun j hj => n1 j (by omega) (by omega) (by omega) (by omega) (by omega)) ⟨z1, fun j hj => absurd hj (Nat.not_lt_zero _)⟩, t1⟩
/-- and lays what it read -/
theorem xLy (d : Nat) {t : Nat × (Nat → Nat)} (hv : rlV t = 0) (hi : invM J L A) (ht : tkM J (rlQ t).2.2) : ∃ K, ev_do (d + 1) M_Mo_laysCode [.ref 139, .ref 150, .int (J 139 21)] (ev_mk h J L) = ev_rn (ev_mk h K L) ∧ invM K L (sRl A (rlN t)) ∧ exc [139, 149] J K ∧ ∀ j, j ≠ 20 → K 139 j = J 139 j := by
  have ok := rlL_ok hv
  have hlen : (rlQ t).2.2.length ≤ 40 := by
    by_cases z : t.1 = 0
    · rw [show rlQ t = (true, 0, []) from if_pos z]; exact Nat.zero_le _
    · have : rlL t = (rlQ t).2.2 := if_neg z
      rw [← this]; exact ok.1
  obtain ⟨K, e1, x1, n1, z1, c1⟩ := c_laysCode (h := h) (K := J) (L := L) d (k := 150) (n := (rlQ t).2.2.length) (Or.inl rfl) (by omega)
  rw [ht.1]
  refine ⟨K, e1, hi.rl2 x1 n1 ?_, x1, n1⟩
  by_cases z : t.1 = 0
  · have hq : rlQ t = (true, 0, []) := if_pos z
    have hL : rlL t = [1000, 1001, 2, 2005, 2004, 3, 2004] := if_pos z
    refine Or.inr ⟨by rw [z1, hq]; rfl, by show (rlL t).length = 7; rw [hL]; rfl, ?_⟩
    show ∀ j, j < 7 → (rlL t).getD j 0 = plT j
    rw [hL]; decide
  · have hL : rlL t = (rlQ t).2.2 := if_neg z
    refine Or.inl ⟨?_, ?_, fun j hj => ?_⟩
    · show 0 < (rlL t).length
      by_cases y : (rlL t).length = 0
      · have := ok.2.1
        rw [y] at this; cases this
      · omega
    · rw [z1]; show _ = nI (rlL t).length; rw [hL]
    · have hj' : j < (rlQ t).2.2.length := by rw [← hL]; exact hj
      rw [c1 j hj', ht.2 j hj']
      show _ = nI ((rlL t).getD j 0)
      rw [hL]
theorem op_rule (hi : inv I L) : okI h d M_SL_rule M_Mo_rule [] I L := by
  refine ok_of (fun A hw => ?_) hi
  rcases rlV_or (aTx A) with hv | ⟨P, hP, hv⟩
  · refine ⟨0, sRl (nT A) (rlN (aTx A)), (nT_wf hw).rl2 (rlL_ok hv), fun I L hi => ?_, fun I L hi => ?_⟩
    · obtain ⟨K, e1, x1, i1, c1⟩ := xRd (h := h) (d + 89) hw hi
      have c := c1 hv
      have h40 := (rlL_ok hv).1
      refine ⟨ev_up (ev_cp (ev_up K 1 1 0) 106 102 0 0 40) 101 1 ((ev_cp (ev_up K 1 1 0) 106 102 0 0 40) 105 1), L, ?_, i1.rl2 (fun a h1 h2 => ?_) ⟨?_, fun j hj => ?_⟩, fun a ha => ?_, rfl⟩
      · rw [e_SL_rule_0, e1, k_I, k_1, k_2, k_3, hv, if_pos (by decide), e_Rule_copy_0, k_V, k_1, k_2, k_3]
      · rw [u_cf h1]
        funext b
        unfold ev_cp
        rw [if_neg (fun z => h2 z.1)]
      · rw [u_at]
        unfold ev_cp
        rw [if_neg (fun z => absurd z.1 (by omega))]; exact c.1
      · have hj' : j < (rlL (aTx A)).length := hj
        rw [u_c (by omega)]
        unfold ev_cp
        rw [if_pos ⟨rfl, Nat.zero_le _, by omega⟩, show 0 + (j - 0) = j by omega]
        exact c.2 j hj
      · rw [u_cf (by omega)]
        funext b
        unfold ev_cp
        rw [if_neg (fun z => absurd z.1 (by omega)), u_cf (by omega), x1 a (by simp <;> omega)]
    · obtain ⟨K, e1, x1, i1, t1⟩ := xRr (h := h) (d + 1) hw hi.th
      obtain ⟨K2, e2, i2, x2, n2⟩ := xLy (h := h) (d + 98) hv i1 t1
      refine ⟨K2, L, ?_, i2, fun a ha => ?_, rfl⟩
      · rw [e_Mo_rule_0, e1, k_I, k_1, k_2, k_3, hv, if_pos rfl, e2, k_V, k_1, k_2, k_3]
      · rw [x2 a (by simp <;> omega), x1 a (by simp <;> omega), th_lo a ha]
  · refine ⟨-1 - nI P, nT A, nT_wf hw, fun I L hi => ?_, fun I L hi => ?_⟩
    · obtain ⟨K, e1, x1, i1, c1⟩ := xRd (h := h) (d + 89) hw hi
      refine ⟨ev_up K 1 1 0, L, ?_, i1, fun a ha => ?_, rfl⟩
      · rw [e_SL_rule_0, e1, k_I, k_1, k_2, k_3, hv, m1_2 P (by omega), if_neg (m1_ne (by omega))]
      · rw [u_cf (by omega), x1 a (by simp <;> omega)]
    · obtain ⟨K, e1, x1, i1, t1⟩ := xRr (h := h) (d + 1) hw hi.th
      refine ⟨K, L, ?_, i1, fun a ha => by rw [x1 a (by simp <;> omega), th_lo a ha], rfl⟩
      have hne : ¬ ((-1 : Int32) - nI P = 0) := fun z => absurd (m1_neg (f := P) (by omega)) (by rw [z]; decide)
      rw [e_Mo_rule_0, e1, k_I, k_1, k_2, k_3, hv, if_neg hne]
end RW

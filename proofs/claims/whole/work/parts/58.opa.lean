/-! Calls: sign, end; acts on the state. -/
section OA
variable {h : Bool × Nat × Nat} {d : Nat} {I I' : Nat → Nat → Int32} {L L' : Nat → Nat → Int64} {A : aP}
theorem invC.st (hi : invC I L A) {s : Nat → Int32} {b : Nat} {U : Nat → Nat → Int32} {t : Nat × (Nat → Int64)} (hf : ∀ a, ¬ (scC a ∨ (17 ≤ a ∧ a ≤ 20) ∨ a = 25 ∨ (29 ≤ a ∧ a < 89)) → I' a = I a) (h1 : I' 101 1 = I 101 1) (h2 : ∀ w, w < 8 → I' 127 (9 * w) = I 127 (9 * w)) (hs : cSt 17 I' s) (hu : uC I' b U) (hr : rwC I' L' t) : invC I' L' (sRw (sUn (sS A s) (b, U)) t) := by
  obtain ⟨g1, g2, g3, g4, g5, g6, g7, g8, g9⟩ := hi
  refine ⟨?_, hr, g3.fr (fun a ha => hf a (by unfold scC; omega)), hs, ?_, hu, g7.fr (fun a ha => hf a (by unfold scC; omega)), g8.fr (fun a h6 h7 => hf a (by unfold scC; omega)), fun w hw => (h2 w hw).trans (g9 w hw)⟩
  · show txC I' (aTx A)
    unfold txC
    rw [hf 1 (by unfold scC; omega), hf 2 (by unfold scC; omega)]
    exact g1
  · exact ⟨h1.trans g5.1, fun j hj => by rw [hf 102 (by unfold scC; omega)]; exact g5.2 j hj⟩
theorem invM.st (hi : invM I L A) {s : Nat → Int32} {b : Nat} {U : Nat → Nat → Int32} {t : Nat × (Nat → Int64)} (hf : ∀ a, ¬ (scM a ∨ a = 143 ∨ a = 155) → I' a = I a) (f9 : ∀ j, (j = 3 ∨ j = 4 ∨ j = 10 ∨ j = 20 ∨ j = 35) → I' 139 j = I 139 j) (hs : mSt 143 0 I' s) (hu : uM I' b U) (hr : rwM I' L' t) : invM I' L' (sRw (sUn (sS A s) (b, U)) t) := by
  obtain ⟨h1, h2, h3, h4, h5, h6, ⟨ch, h7, h8⟩, h9⟩ := hi
  have fr : ∀ a, ¬ (scM a ∨ a = 143 ∨ a = 155) → I' a = I a := hf
  refine ⟨?_, hr, ?_, hs, ?_, hu, ⟨ch, h7, (f9 4 (by omega)).trans h8.1, fun i hi => ?_⟩, h9.fr (f9 35 (by omega)) (fun a h6 h7 => fr a (by unfold scM; omega))⟩
  · show txM I' (aTx A)
    unfold txM
    rw [f9 10 (by omega), fr 145 (by unfold scM; omega)]
    exact h1
  · show bkM I' _ _ _
    unfold bkM
    rw [f9 3 (by omega), fr 142 (by unfold scM; omega), fr 141 (by unfold scM; omega)]
    exact h3
  · show rlM2 I' _ _
    unfold rlM2 rlM
    rw [f9 20 (by omega), fr 149 (by unfold scM; omega)]
    exact h5
  · obtain ⟨q, kc, k1, k2, k3, k4, k5⟩ := h8.2 i hi
    exact ⟨q, kc, by rw [fr 171 (by unfold scM; omega)]; exact k1, by rw [fr 172 (by unfold scM; omega)]; exact k2, k3, k4, fun z => (k5 z).fr (fr 173 (by unfold scM; omega))⟩
theorem rwC.of {t : Nat × (Nat → Int64)} (hr : rwC I L t) (h1 : I' 3 1 = I 3 1) (h2 : L' 4 = L 4) : rwC I' L' t := by
  unfold rwC
  rw [h1, h2]
  exact hr
theorem rwM.of {t : Nat × (Nat → Int64)} (hr : rwM I L t) (h1 : I' 139 1 = I 139 1) (h2 : L' 140 = L 140) : rwM I' L' t := by
  unfold rwM
  rw [h1, h2]
  exact hr
theorem wfA.rw (hw : wfA A) {t : Nat × (Nat → Int64)} (ht : t.1 ≤ 9) : wfA (sRw A t) := ⟨hw.1, ht, hw.2.2⟩
theorem wfA.st (hw : wfA A) {s : Nat → Int32} {b : Nat} {U : Nat → Nat → Int32} (hs : wfS (aBk A).2.1 s) (hb : b ≤ 15) (hU : ∀ i, i < b → wfS (aBk A).2.1 (U i)) : wfA (sUn (sS A s) (b, U)) := ⟨hw.1, hw.2.1, hw.2.2.1, hs, hw.2.2.2.2.1, ⟨hb, hU⟩, hw.2.2.2.2.2.2⟩
theorem psh_wf {len : Nat → Nat} {t : Nat → Int32} {U : Nat → Nat → Int32} {b : Nat} (ht : wfS len t) (hU : ∀ i, i < b → wfS len (U i)) : ∀ i, i < min (b + 1) 15 → wfS len (psh t U i) := by
  intro i hi
  unfold psh
  by_cases e : i = 0
  · rw [if_pos e]; exact ht
  · rw [if_neg e]; exact hU (i - 1) (by omega)
/-- an act of the class: a copy, the act, what was is kept if it was done -/
theorem ac_C {v : Int32} {s' : Nat → Int32} (hi : invC I L A) (J : Nat → Nat → Int32) (x1 : exc [17, 18, 19, 20] (cpS I 21 17) J) (s1 : cSt 17 J s') : ∃ I1, ev_do (d + 99) M_SL_rememberIfDone [.ref 0, .int v] (ev_mk h J L) = ev_ri v (ev_mk h I1 L) ∧ invC I1 L (if v < 0 then sS A s' else sUn (sS A s') (min ((aUn A).1 + 1) 15, psh (aS A) (aUn A).2)) ∧ ∀ a, 139 ≤ a → I1 a = I a := by
  have x0 := cpS_ex I 21 17
  have hT : cSt 21 (cpS I 21 17) (aS A) := cpS_st (by omega) hi.2.2.2.1
  have hTJ : cSt 21 J (aS A) := hT.ex x1 (by simp) (by simp) (by simp) (by simp)
  have xx : exc [17, 18, 19, 20, 21, 22, 23, 24] I J := (x0.mono (by simp <;> omega)).tr (x1.mono (by simp <;> omega))
  have hU : uC J (aUn A).1 (aUn A).2 := hi.2.2.2.2.2.1.ex xx (by intro a ha; simp <;> omega)
  rw [e_SL_rememberIfDone_0]
  by_cases hv : v < 0
  · rw [if_pos hv, if_pos hv]
    refine ⟨J, rfl, ?_, fun a ha => xx a (by simp <;> omega)⟩
    exact hi.st (fun a ha => xx a (by unfold scC at ha; simp <;> omega)) (by rw [xx 101 (by simp)]) (fun w hw => by rw [xx 127 (by simp)]) s1 hU (hi.2.1.of (by rw [xx 3 (by simp)]) rfl)
  · rw [if_neg hv, if_neg hv]
    obtain ⟨I1, k, e1, hk, x2, u1⟩ := c_remember (h := h) (L := L) (d + 96) (Or.inr rfl : 21 = 17 ∨ 21 = 21) hU hTJ
    rw [e1, k_V, k_1, k_2, k_3]
    refine ⟨I1, rfl, ?_, fun a ha => by rw [x2 a (by simp <;> omega), xx a (by simp <;> omega)]⟩
    exact hi.st (fun a ha => by rw [x2 a (by unfold scC at ha; simp <;> omega), xx a (by unfold scC at ha; simp <;> omega)]) (by rw [x2 101 (by simp <;> omega), xx 101 (by simp)]) (fun w hw => by rw [x2 127 (by simp <;> omega), xx 127 (by simp)]) (s1.ex x2 (by simp <;> omega) (by simp <;> omega) (by simp <;> omega) (by simp <;> omega)) u1 (hi.2.1.of (by rw [x2 3 (by simp <;> omega), xx 3 (by simp)]) rfl)
/-- the same of the reference, behind putsBy and the act -/
theorem ac_M {v : Int32} {s' : Nat → Int32} (hi : invM I L A) {I1 J : Nat → Nat → Int32} (x0 : exc [155] (ev_up I 139 0 0) I1) (u1 : uM I1 (aUn A).1 (aUn A).2) (m1 : mSt 155 (27 * (aUn A).1) I1 (aS A)) (x1 : exc [143] I1 J) (s1 : mSt 143 0 J s') : ∃ I2, ev_do (d + 99) M_Mo_counted [.ref 139, .int v] (ev_mk h J L) = ev_ri v (ev_mk h I2 L) ∧ invM I2 L (if v < 0 then sS A s' else sUn (sS A s') (min ((aUn A).1 + 1) 15, psh (aS A) (aUn A).2)) ∧ ∀ a, a < 139 → I2 a = I a := by
  have xx : ∀ a, a ≠ 139 → a ≠ 143 → a ≠ 155 → J a = I a := fun a h1 h2 h3 => by rw [x1 a (by simpa using h2), x0 a (by simpa using h3), u_cf h1]
  have j9 : ∀ j, j ≠ 0 → J 139 j = I 139 j := fun j hj => by rw [x1 139 (by simp), x0 139 (by simp), u_j hj]
  have hU : uM J (aUn A).1 (aUn A).2 := u1.ex x1 (by rw [x1 139 (by simp)]) (by simp)
  have hm : mSt 155 (27 * (aUn A).1) J (aS A) := m1.ex x1 (by simp)
  rw [e_Mo_counted_0]
  by_cases hv : v < 0
  · rw [if_pos hv, if_pos hv]
    refine ⟨J, rfl, ?_, fun a ha => xx a (by omega) (by omega) (by omega)⟩
    exact hi.st (fun a ha => xx a (by unfold scM at ha; omega) (by unfold scM at ha; omega) (by unfold scM at ha; omega)) (fun j hj => j9 j (by omega)) s1 hU (hi.2.1.of (j9 1 (by omega)) rfl)
  · rw [if_neg hv, if_neg hv]
    obtain ⟨I2, e1, x2, n2, u2⟩ := c_adds (h := h) (L := L) (x := v) (d + 97) hU hm
    rw [e1, k_I, k_1, k_2, k_3]
    refine ⟨I2, rfl, ?_, fun a ha => by rw [x2 a (by simp <;> omega)]; exact xx a (by omega) (by omega) (by omega)⟩
    exact hi.st (fun a ha => by rw [x2 a (by unfold scM at ha; simp <;> omega)]; exact xx a (by unfold scM at ha; omega) (by unfold scM at ha; omega) (by unfold scM at ha; omega)) (fun j hj => (n2 j (by omega)).trans (j9 j (by omega))) (s1.ex x2 (by simp)) u2 (hi.2.1.of ((n2 1 (by omega)).trans (j9 1 (by omega))) rfl)
/-- the picture behind an act -/
def pAc (A : aP) (r : Int32 × (Nat → Int32)) : aP := if r.1 < 0 then sS A r.2 else sUn (sS A r.2) (min ((aUn A).1 + 1) 15, psh (aS A) (aUn A).2)
theorem pAc_wf (hw : wfA A) {r : Int32 × (Nat → Int32)} (hs : wfS (aBk A).2.1 r.2) : wfA (pAc A r) := by
  unfold pAc
  obtain ⟨w1, w2, w3, w4, w5, w6, w7⟩ := hw
  split
  · exact ⟨w1, w2, w3, hs, w5, w6, w7⟩
  · exact ⟨w1, w2, w3, hs, w5, ⟨show min ((aUn A).1 + 1) 15 ≤ 15 by omega, psh_wf w4 w6.2⟩, w7⟩
theorem op_offer {x y : Int32} (hi : inv I L) : okI h d M_SL_offer M_Mo_offer [.int x, .int y] I L := by
  refine ok_of (fun A hw => ⟨(aOf (aS A) x y).1, pAc A (aOf (aS A) x y), pAc_wf hw (aOf_wf hw.2.2.2.1 x y), fun I L hi => ?_, fun I L hi => ?_⟩) hi
  · have x0 := cpS_ex I 21 17
    obtain ⟨J, e1, x1, s1⟩ := c_putOffer (h := h) (L := L) (x := x) (y := y) (d + 97) (Or.inl rfl : 17 = 17 ∨ 17 = 21) (hi.2.2.2.1.ex x0 (by simp) (by simp) (by simp) (by simp))
    obtain ⟨I1, e2, i2, f2⟩ := ac_C (h := h) (d := d) (v := (aOf (aS A) x y).1) hi J (x1.mono (by simp)) s1
    refine ⟨I1, L, ?_, i2, f2, rfl⟩
    rw [e_SL_offer_0, c_copyT, k_V, k_1, k_2, k_3, e1, k_I, k_1, k_2, k_3, e2, k_I, k_1, k_2, k_3]
  · have x9 : exc [139] I (ev_up I 139 0 0) := exc.rf.up (by simp)
    obtain ⟨I1, e1, x1, u1, m1⟩ := c_putsBy (h := h) (L := L) (d + 98) (hi.2.2.2.2.2.1.ex x9 (u_j (by omega)) (by simp)) (hi.2.2.2.1.ex x9 (by simp))
    obtain ⟨J, e2, x2, s2⟩ := c_Mo_offers (h := h) (L := L) (x := x) (y := y) (d + 96) (Or.inl rfl : 143 = 143 ∨ 143 = 144) ((hi.2.2.2.1.ex x9 (by simp)).ex x1 (by simp))
    obtain ⟨I2, e3, i3, f3⟩ := ac_M (h := h) (d := d) (v := (aOf (aS A) x y).1) hi x1 u1 m1 x2 s2
    refine ⟨I2, L, ?_, i3, f3, rfl⟩
    rw [e_Mo_offer_0, e1, k_V, k_1, k_2, k_3, e2, k_I, k_1, k_2, k_3, e3, k_I, k_1, k_2, k_3]
theorem op_stirs {x y : Int32} (hi : inv I L) : okI h d M_SL_stirs M_Mo_stirs [.int x, .int y] I L := by
  refine ok_of (fun A hw => ⟨(aSt (aS A) x y).1, pAc A (aSt (aS A) x y), pAc_wf hw (aSt_wf hw.2.2.2.1 x y), fun I L hi => ?_, fun I L hi => ?_⟩) hi
  · have x0 := cpS_ex I 21 17
    obtain ⟨J, e1, x1, s1⟩ := c_stir (h := h) (L := L) (x := x) (y := y) (d + 97) (hi.2.2.2.1.ex x0 (by simp) (by simp) (by simp) (by simp))
    obtain ⟨I1, e2, i2, f2⟩ := ac_C (h := h) (d := d) (v := (aSt (aS A) x y).1) hi J (x1.mono (by simp)) s1
    refine ⟨I1, L, ?_, i2, f2, rfl⟩
    rw [e_SL_stirs_0, c_copyT, k_V, k_1, k_2, k_3, e1, k_I, k_1, k_2, k_3, e2, k_I, k_1, k_2, k_3]
  · have x9 : exc [139] I (ev_up I 139 0 0) := exc.rf.up (by simp)
    obtain ⟨I1, e1, x1, u1, m1⟩ := c_putsBy (h := h) (L := L) (d + 98) (hi.2.2.2.2.2.1.ex x9 (u_j (by omega)) (by simp)) (hi.2.2.2.1.ex x9 (by simp))
    obtain ⟨J, e2, x2, s2⟩ := c_Mo_stirsOne (h := h) (L := L) (x := x) (y := y) (d + 96) ((hi.2.2.2.1.ex x9 (by simp)).ex x1 (by simp))
    obtain ⟨I2, e3, i3, f3⟩ := ac_M (h := h) (d := d) (v := (aSt (aS A) x y).1) hi x1 u1 m1 x2 s2
    refine ⟨I2, L, ?_, i3, f3, rfl⟩
    rw [e_Mo_stirs_0, e1, k_V, k_1, k_2, k_3, e2, k_I, k_1, k_2, k_3, e3, k_I, k_1, k_2, k_3]
theorem op_mutes {x y : Int32} (hi : inv I L) : okI h d M_SL_mutes M_Mo_mutes [.int x, .int y] I L := by
  refine ok_of (fun A hw => ⟨(aMu (aBk A).1 (aBk A).2.1 (aS A) x y).1, pAc A (aMu (aBk A).1 (aBk A).2.1 (aS A) x y), pAc_wf hw (aMu_wf hw.2.2.1 hw.2.2.2.1 x y), fun I L hi => ?_, fun I L hi => ?_⟩) hi
  · have x0 := cpS_ex I 21 17
    obtain ⟨J, e1, x1, s1⟩ := c_mute (h := h) (L := L) (x := x) (y := y) (d + 96) (hi.2.2.1.1.ex x0 (by intro a ha; simp <;> omega)) (Or.inl rfl : 17 = 17 ∨ 17 = 21) (hi.2.2.2.1.ex x0 (by simp) (by simp) (by simp) (by simp)) hw.2.2.2.1
    obtain ⟨I1, e2, i2, f2⟩ := ac_C (h := h) (d := d) (v := (aMu (aBk A).1 (aBk A).2.1 (aS A) x y).1) hi J (x1.mono (by simp)) s1
    refine ⟨I1, L, ?_, i2, f2, rfl⟩
    rw [e_SL_mutes_0, c_copyT, k_V, k_1, k_2, k_3, e1, k_I, k_1, k_2, k_3, e2, k_I, k_1, k_2, k_3]
  · have x9 : exc [139] I (ev_up I 139 0 0) := exc.rf.up (by simp)
    obtain ⟨I1, e1, x1, u1, m1⟩ := c_putsBy (h := h) (L := L) (d + 98) (hi.2.2.2.2.2.1.ex x9 (u_j (by omega)) (by simp)) (hi.2.2.2.1.ex x9 (by simp))
    have hB1 : bkM I1 (aBk A).1 (aBk A).2.1 (aBk A).2.2 := by
      have := hi.2.2.1
      unfold bkM at this ⊢
      rw [x1 139 (by simp), x1 141 (by simp), x1 142 (by simp), u_j (show 3 ≠ 0 by decide), u_cf (show 141 ≠ 139 by decide), u_cf (show 142 ≠ 139 by decide)]
      exact this
    obtain ⟨J, e2, x2, s2⟩ := c_Mo_mutesOne (h := h) (L := L) (x := x) (y := y) (d + 96) hB1 (Or.inl rfl : 143 = 143 ∨ 143 = 144) ((hi.2.2.2.1.ex x9 (by simp)).ex x1 (by simp)) hw.2.2.2.1
    obtain ⟨I2, e3, i3, f3⟩ := ac_M (h := h) (d := d) (v := (aMu (aBk A).1 (aBk A).2.1 (aS A) x y).1) hi x1 u1 m1 x2 s2
    refine ⟨I2, L, ?_, i3, f3, rfl⟩
    rw [e_Mo_mutes_0, e1, k_V, k_1, k_2, k_3, e2, k_I, k_1, k_2, k_3, e3, k_I, k_1, k_2, k_3]
end OA

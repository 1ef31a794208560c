/-! Calls: sign, end, undo, keep, again, noticed, forget, days. -/
def snoc (t : Nat × (Nat → Int64)) (x : Int64) : Nat × (Nat → Int64) := (t.1 + 1, fun j => if j = t.1 then x else t.2 j)
def nil0 : Nat × (Nat → Int64) := (0, fun _ => 0)
section OB
variable {h : Bool × Nat × Nat} {d : Nat} {I I' : Nat → Nat → Int32} {L L' : Nat → Nat → Int64} {A : aP}
theorem rwC.nil : rwC (ev_up I 3 1 0) L nil0 := ⟨u_at _ _ _ _, fun j hj => by simp [nil0] at hj⟩
theorem rwM.nil : rwM (ev_up I 139 1 0) L nil0 := ⟨u_at _ _ _ _, fun j hj => by simp [nil0] at hj⟩
theorem t_tell (d : Nat) {t : Nat × (Nat → Int64)} {x : Int64} (hr : rwC I L t) (ht : t.1 < 9) : ∃ I' L', ev_do (d + 1) M_Row_tell [.ref 3, .long x] (ev_mk h I L) = ev_rn (ev_mk h I' L') ∧ exc [3] I I' ∧ (∀ a, a ≠ 4 → L' a = L a) ∧ rwC I' L' (snoc t x) := by
  refine ⟨_, _, c_Row_tell d hr.1 ht, exc.rf.up (by simp), fun a ha => u_cf ha, u_at _ _ _ _, fun j hj => ?_⟩
  show ev_up L 4 t.1 x 4 j = if j = t.1 then x else t.2 j
  have hj' : j < t.1 + 1 := hj
  by_cases e : j = t.1
  · rw [e, u_at, if_pos rfl]
  · rw [u_j e, if_neg e]; exact hr.2 j (by omega)
theorem t_two (d : Nat) {x y : Int64} : ∃ I' L', ev_do (d + 2) M_Row_tellTwo [.ref 3, .long x, .long y] (ev_mk h I L) = ev_rn (ev_mk h I' L') ∧ exc [3] I I' ∧ (∀ a, a ≠ 4 → L' a = L a) ∧ rwC I' L' (snoc (snoc nil0 x) y) := by
  obtain ⟨I1, L1, e1, x1, l1, r1⟩ := t_tell (h := h) (x := x) d (rwC.nil (I := I) (L := L)) (by decide)
  obtain ⟨I2, L2, e2, x2, l2, r2⟩ := t_tell (h := h) (x := y) d r1 (show 1 < 9 by decide)
  refine ⟨I2, L2, ?_, ((exc.rf.up (by simp)).tr x1).tr x2, fun a ha => (l2 a ha).trans (l1 a ha), r2⟩
  rw [e_Row_tellTwo_0, e1, k_V, k_1, k_2, k_3, e2, k_V, k_1, k_2, k_3]
theorem t_enters (d : Nat) {t : Nat × (Nat → Int64)} {x : Int64} (hr : rwM I L t) (ht : t.1 < 24) : ∃ I' L', ev_do (d + 1) M_Mo_enters [.ref 139, .long x] (ev_mk h I L) = ev_rn (ev_mk h I' L') ∧ exc [139] I I' ∧ (∀ j, j ≠ 1 → I' 139 j = I 139 j) ∧ (∀ a, a ≠ 140 → L' a = L a) ∧ rwM I' L' (snoc t x) := by
  refine ⟨_, _, c_Mo_enters d hr.1 ht, exc.rf.up (by simp), fun j hj => u_j hj, fun a ha => u_cf ha, u_at _ _ _ _, fun j hj => ?_⟩
  show ev_up L 140 t.1 x 140 j = if j = t.1 then x else t.2 j
  have hj' : j < t.1 + 1 := hj
  by_cases e : j = t.1
  · rw [e, u_at, if_pos rfl]
  · rw [u_j e, if_neg e]; exact hr.2 j (by omega)
theorem invC.tx (hi : invC I L A) {t : Nat × (Nat → Nat)} (hf : ∀ a, a ≠ 1 → a ≠ 2 → I' a = I a) (ht : txC I' t) : invC I' L (sTx A t) := by
  obtain ⟨h1, h2, h3, h4, h5, h6, h7, h8, h9⟩ := hi
  refine ⟨ht, h2.of (by rw [hf 3 (by omega) (by omega)]) rfl, h3.fr (fun a ha => hf a (by omega) (by omega)), h4.fr (fun a h6 h7 => hf a (by omega) (by omega)), ?_, h6.fr (fun a ha => hf a (by omega) (by omega)), h7.fr (fun a ha => hf a (by omega) (by omega)), h8.fr (fun a h6 h7 => hf a (by omega) (by omega)), fun w hw => by rw [hf 127 (by omega) (by omega)]; exact h9 w hw⟩
  show rlC 101 I' _ _
  unfold rlC; rw [hf 101 (by omega) (by omega), hf 102 (by omega) (by omega)]; exact h5
theorem invM.tx (hi : invM I L A) {t : Nat × (Nat → Nat)} (fr : ∀ a, ¬ (scM a ∨ a = 145) → I' a = I a) (f9 : ∀ j, (j = 1 ∨ j = 3 ∨ j = 4 ∨ j = 20 ∨ j = 26 ∨ j = 35) → I' 139 j = I 139 j) (ht : txM I' t) : invM I' L (sTx A t) := by
  obtain ⟨h1, h2, h3, h4, h5, h6, ⟨ch, h7, h8⟩, h9⟩ := hi
  refine ⟨ht, h2.of (f9 1 (by omega)) rfl, ?_, h4.fr (fr 143 (by unfold scM; omega)), ?_, ⟨(f9 26 (by omega)).trans h6.1, h6.2.1, fun i hi => (h6.2.2 i hi).fr (fr 155 (by unfold scM; omega))⟩, ⟨ch, h7, (f9 4 (by omega)).trans h8.1, fun i hi => ?_⟩, h9.fr (f9 35 (by omega)) (fun a h6 h7 => fr a (by unfold scM; omega))⟩
  · show bkM I' _ _ _
    unfold bkM
    rw [f9 3 (by omega), fr 142 (by unfold scM; omega), fr 141 (by unfold scM; omega)]
    exact h3
  · show rlM2 I' _ _
    unfold rlM2 rlM
    rw [f9 20 (by omega), fr 149 (by unfold scM; omega)]
    exact h5
  · obtain ⟨q, kc, k1, k2, k3, k4, k5⟩ := h8.2 i hi
    exact ⟨q, kc, by rw [fr 171 (by unfold scM; omega)]; exact k1, by rw [fr 172 (by unfold scM; omega)]; exact k2, k3, k4, fun z => (k5 z).fr (fr 173 (by unfold scM; omega))⟩
/-- the reference has put thrown to 0 -/
theorem invM.th (hi : invM I L A) : invM (ev_up I 139 0 0) L A := hi.q (frM.rf.up (by unfold scM; omega) (by omega)) (hi.2.1.of (u_j (by omega)) rfl)
theorem th_lo : ∀ a, a < 139 → ev_up I 139 0 0 a = I a := fun a ha => u_cf (by omega)
theorem op_end {x : Int32} (hi : inv I L) : okI h d M_SL_end M_Mo_end [.int x] I L := by
  refine ok_of (fun A hw => ?_) hi
  by_cases hx : ¬ x < 0 ∧ ¬ nI (aTx A).1 < x
  · refine ⟨1, sTx A (x.toNatClampNeg, (aTx A).2), ?_, fun I L hi => ?_, fun I L hi => ?_⟩
    · obtain ⟨a, ha, rfl⟩ := q_ge hx.1
      have h80 := hw.1.1
      have hle : a ≤ (aTx A).1 := by
        have := mt (q_lt (a := (aTx A).1) (by omega) ha).mpr hx.2
        omega
      exact ⟨⟨show (nI a).toNatClampNeg ≤ 80 by rw [q_cl ha]; omega, fun j hj => hw.1.2 j (by have hj' : j < (nI a).toNatClampNeg := hj; rw [q_cl ha] at hj'; omega)⟩, hw.2⟩
    · refine ⟨_, L, (c_SL_end (d + 99) x h I L).trans (if_pos (by rw [hi.1.1]; exact hx)), ?_, fun a ha => u_cf (by omega), rfl⟩
      obtain ⟨a, ha, rfl⟩ := q_ge hx.1
      have hle : a ≤ (aTx A).1 := by
        have h80 := hw.1.1
        have := mt (q_lt (a := (aTx A).1) (by omega) ha).mpr hx.2
        omega
      refine hi.tx (fun a h1 h2 => u_cf h1) ⟨by rw [u_at]; exact congrArg nI (q_cl ha).symm, fun j hj => ?_⟩
      have hj' : j < (nI a).toNatClampNeg := hj
      rw [q_cl ha] at hj'
      rw [u_c (by omega)]; exact hi.1.2 j (by omega)
    · refine ⟨_, L, (c_Mo_end (d + 98) x h I L).trans (if_pos (by rw [hi.1.1]; exact hx)), ?_, fun a ha => by rw [u_cf (by omega), u_cf (by omega)], rfl⟩
      obtain ⟨a, ha, rfl⟩ := q_ge hx.1
      have hle : a ≤ (aTx A).1 := by
        have h80 := hw.1.1
        have := mt (q_lt (a := (aTx A).1) (by omega) ha).mpr hx.2
        omega
      refine hi.tx (fun a h1 => by rw [u_cf (by unfold scM at h1; omega), u_cf (by unfold scM at h1; omega)]) (fun j hj => by rw [u_j (by omega), u_j (by omega)]) ⟨by rw [u_at]; exact congrArg nI (q_cl ha).symm, fun j hj => ?_⟩
      have hj' : j < (nI a).toNatClampNeg := hj
      rw [q_cl ha] at hj'
      rw [u_c (by omega), u_c (by omega)]; exact hi.1.2 j (by omega)
  · refine ⟨0, A, hw, fun I L hi => ?_, fun I L hi => ?_⟩
    · exact ⟨I, L, (c_SL_end (d + 99) x h I L).trans (if_neg (by rw [hi.1.1]; exact hx)), hi, fun _ _ => rfl, rfl⟩
    · exact ⟨_, L, (c_Mo_end (d + 98) x h I L).trans (if_neg (by rw [hi.1.1]; exact hx)), hi.th, th_lo, rfl⟩
/-- the text with four signs more -/
def tx4 (t : Nat × (Nat → Nat)) (x : Int32) : Nat × (Nat → Nat) := (t.1 + 4, fun j => if t.1 ≤ j then (s_b x (nI (j - t.1))).toNatClampNeg else t.2 j)
theorem op_sign {x : Int32} (hi : inv I L) : okI h d M_SL_sign M_Mo_sign [.int x] I L := by
  refine ok_of (fun A hw => ?_) hi
  have h80 := hw.1.1
  by_cases hx : 76 < (aTx A).1
  · refine ⟨-1, A, hw, fun I L hi => ?_, fun I L hi => ?_⟩
    · exact ⟨I, L, (c_SL_sign (d + 98) x h I L hi.1.1 h80).trans (if_pos hx), hi, fun _ _ => rfl, rfl⟩
    · exact ⟨_, L, (c_Mo_sign (d + 99) x h I L hi.1.1 h80).trans (if_pos hx), hi.th, th_lo, rfl⟩
  · have hb : ∀ k, ∃ c, c < 256 ∧ s_b x (nI k) = nI c := fun k => s_byte x (nI k)
    have hb2 : ∀ k, s_b x (nI k) = nI ((s_b x (nI k)).toNatClampNeg) := fun k => by
      obtain ⟨c, h1, h2⟩ := hb k
      rw [h2, q_cl (by omega)]
    refine ⟨nI ((aTx A).1 + 4), sTx A (tx4 (aTx A) x), ⟨⟨show (aTx A).1 + 4 ≤ 80 by omega, fun j hj => ?_⟩, hw.2⟩, fun I L hi => ?_, fun I L hi => ?_⟩
    · show (if (aTx A).1 ≤ j then (s_b x (nI (j - (aTx A).1))).toNatClampNeg else (aTx A).2 j) < 256
      by_cases e : (aTx A).1 ≤ j
      · rw [if_pos e]
        obtain ⟨c, h1, h2⟩ := hb (j - (aTx A).1)
        rw [h2, q_cl (by omega)]; exact h1
      · rw [if_neg e]; exact hw.1.2 j (by omega)
    · refine ⟨_, L, (c_SL_sign (d + 98) x h I L hi.1.1 h80).trans (if_neg hx), ?_, fun a ha => ?_, rfl⟩
      · refine hi.tx (fun a h1 h2 => by unfold t_four; rw [u_cf h1, u_cf h2, u_cf h1, u_cf h2, u_cf h1, u_cf h2, u_cf h1, u_cf h2]) ⟨u_at _ _ _ _, fun j hj => ?_⟩
        have hj' : j < (aTx A).1 + 4 := hj
        obtain ⟨q0, q1, q2, q3⟩ := t_s x
        show t_four I (aTx A).1 x 2 j = nI (if (aTx A).1 ≤ j then (s_b x (nI (j - (aTx A).1))).toNatClampNeg else (aTx A).2 j)
        unfold t_four
        generalize hn : (aTx A).1 = n at *
        by_cases e : n ≤ j
        · rw [if_pos e, ← hb2]
          have cs : j = n ∨ j = n + 1 ∨ j = n + 2 ∨ j = n + 3 := by omega
          rcases cs with rfl | rfl | rfl | rfl
          · rw [u_c (by omega), u_j (by omega), u_c (by omega), u_j (by omega), u_c (by omega), u_j (by omega), u_c (by omega), u_at, q0, Nat.sub_self]; rfl
          · rw [u_c (by omega), u_j (by omega), u_c (by omega), u_j (by omega), u_c (by omega), u_at, q1, show n + 1 - n = 1 by omega]; rfl
          · rw [u_c (by omega), u_j (by omega), u_c (by omega), u_at, q2, show n + 2 - n = 2 by omega]; rfl
          · rw [u_c (by omega), u_at, q3, show n + 3 - n = 3 by omega]; rfl
        · rw [if_neg e, u_c (by omega), u_j (by omega), u_c (by omega), u_j (by omega), u_c (by omega), u_j (by omega), u_c (by omega), u_j (by omega)]
          exact hi.1.2 j (by omega)
      · unfold t_four
        rw [u_cf (by omega), u_cf (by omega), u_cf (by omega), u_cf (by omega), u_cf (by omega), u_cf (by omega), u_cf (by omega), u_cf (by omega)]
    · refine ⟨_, L, (c_Mo_sign (d + 99) x h I L hi.1.1 h80).trans (if_neg hx), ?_, fun a ha => ?_, rfl⟩
      · refine hi.tx (fun a h1 => by unfold scM at h1; unfold m_four; rw [u_cf (by omega), u_cf (by omega), u_cf (by omega), u_cf (by omega), u_cf (by omega), u_cf (by omega)]) (fun j hj => by unfold m_four; rw [u_j (by omega), u_c (by omega), u_c (by omega), u_c (by omega), u_c (by omega), u_j (by omega)]) ⟨u_at _ _ _ _, fun j hj => ?_⟩
        have hj' : j < (aTx A).1 + 4 := hj
        show m_four I (aTx A).1 x 145 j = nI (if (aTx A).1 ≤ j then (s_b x (nI (j - (aTx A).1))).toNatClampNeg else (aTx A).2 j)
        unfold m_four
        generalize hn : (aTx A).1 = n at *
        by_cases e : n ≤ j
        · rw [if_pos e, ← hb2]
          have cs : j = n ∨ j = n + 1 ∨ j = n + 2 ∨ j = n + 3 := by omega
          rcases cs with rfl | rfl | rfl | rfl
          · rw [u_c (by omega), u_j (by omega), u_j (by omega), u_j (by omega), u_at, Nat.sub_self]; rfl
          · rw [u_c (by omega), u_j (by omega), u_j (by omega), u_at, show n + 1 - n = 1 by omega]; rfl
          · rw [u_c (by omega), u_j (by omega), u_at, show n + 2 - n = 2 by omega]; rfl
          · rw [u_c (by omega), u_at, show n + 3 - n = 3 by omega]; rfl
        · rw [if_neg e, u_c (by omega), u_j (by omega), u_j (by omega), u_j (by omega), u_j (by omega), u_c (by omega)]
          exact hi.1.2 j (by omega)
      · unfold m_four
        rw [u_cf (by omega), u_cf (by omega), u_cf (by omega), u_cf (by omega), u_cf (by omega), u_cf (by omega)]
theorem op_undo (hi : inv I L) : okI h d M_SL_undo M_Mo_undo [] I L := by
  refine ok_of (fun A hw => ?_) hi
  have hb15 := hw.2.2.2.2.2.1.1
  by_cases hb : (aUn A).1 = 0
  · refine ⟨-1, A, hw, fun I L hi => ?_, fun I L hi => ?_⟩
    · rcases c_bringBack (h := h) (I := I) (L := L) (d + 97) hi.2.2.2.2.2.1 with ⟨_, e⟩ | ⟨z, _⟩
      · refine ⟨I, L, ?_, hi, fun _ _ => rfl, rfl⟩
        rw [e_SL_undo_0, e, k_I, k_1, k_2, k_3, if_pos rfl]
      · omega
    · rcases c_Mo_undo (h := h) (I := I) (L := L) (d + 99) hi.2.2.2.2.2.1 with ⟨_, e⟩ | ⟨z, _⟩
      · exact ⟨_, L, e, hi.th, th_lo, rfl⟩
      · omega
  · refine ⟨nI ((aUn A).1 - 1), sUn (sS A ((aUn A).2 0)) ((aUn A).1 - 1, fun i => (aUn A).2 (i + 1)), hw.st (hw.2.2.2.2.2.1.2 0 (by omega)) (by omega) (fun i hi => hw.2.2.2.2.2.1.2 (i + 1) (by omega)), fun I L hi => ?_, fun I L hi => ?_⟩
    · rcases c_bringBack (h := h) (I := I) (L := L) (d + 97) hi.2.2.2.2.2.1 with ⟨z, e⟩ | ⟨_, I1, e1, x1, s1, u1⟩
      · omega
      · refine ⟨I1, L, ?_, ?_, fun a ha => x1 a (by simp <;> omega), rfl⟩
        · obtain ⟨a, _, _, u3, _⟩ := u1
          rw [e_SL_undo_0, e1, k_I, k_1, k_2, k_3, if_neg (by decide), u3]
        · exact hi.st (fun a ha => x1 a (by unfold scC at ha; simp <;> omega)) (by rw [x1 101 (by simp)]) (fun w hw => by rw [x1 127 (by simp)]) s1 u1 (hi.2.1.of (by rw [x1 3 (by simp)]) rfl)
    · rcases c_Mo_undo (h := h) (I := I) (L := L) (d + 99) hi.2.2.2.2.2.1 with ⟨z, e⟩ | ⟨_, I1, e1, x1, n1, s1, u1⟩
      · omega
      · refine ⟨I1, L, e1, ?_, fun a ha => x1 a (by simp <;> omega), rfl⟩
        exact hi.st (fun a ha => x1 a (by unfold scM at ha; simp <;> omega)) (fun j hj => n1 j (by omega) (by omega)) s1 u1 (hi.2.1.of (n1 1 (by omega) (by omega)) rfl)
theorem op_keep {x : Int32} (hi : inv I L) : okI h d M_SL_keep M_Mo_keep [.int x] I L := by
  refine ok_of (fun A hw => ?_) hi
  cases hx : blw x 3 with
  | false =>
    refine ⟨0, A, hw, fun I L hi => ?_, fun I L hi => ?_⟩
    · rcases c_keepUnder (h := h) (L := L) (x := x) (d + 97) hi.2.2.2.2.2.2.1 hi.2.2.2.1 with ⟨_, e⟩ | ⟨k, _, hk, rfl, _⟩
      · refine ⟨I, L, ?_, hi, fun _ _ => rfl, rfl⟩
        rw [e_SL_keep_0, e, k_I, k_1, k_2, k_3, if_pos (by decide)]
      · rw [(blw_iff (by omega)).mpr ⟨k, hk, rfl⟩] at hx; cases hx
    · obtain ⟨ch, hch, hK⟩ := hi.2.2.2.2.2.2.1
      rcases c_Mo_keep (h := h) (L := L) (x := x) (d + 98) hK (by have := hw.2.2.1.1; omega) hi.2.2.2.1 with ⟨_, e⟩ | ⟨k, _, hk, rfl, _⟩
      · exact ⟨_, L, e, hi.th, th_lo, rfl⟩
      · rw [(blw_iff (by omega)).mpr ⟨k, hk, rfl⟩] at hx; cases hx
  | true =>
    obtain ⟨k, hk, rfl⟩ := (blw_iff (by omega)).mp hx
    refine ⟨1, sKp A (fun i => if i = k then true else (aKp A).1 i, fun i => if i = k then aS A else (aKp A).2 i), ?_, fun I L hi => ?_, fun I L hi => ?_⟩
    · obtain ⟨w1, w2, w3, w4, w5, w6, w7, w8⟩ := hw
      refine ⟨w1, w2, w3, w4, w5, w6, fun i hi hz => ?_, w8⟩
      show wfS (aBk A).2.1 (if i = k then aS A else (aKp A).2 i)
      have hz' : (if i = k then true else (aKp A).1 i) = true := hz
      by_cases e : i = k
      · rw [if_pos e]; exact w4
      · rw [if_neg e] at hz' ⊢; exact w7 i hi hz'
    · rcases c_keepUnder (h := h) (L := L) (x := nI k) (d + 97) hi.2.2.2.2.2.2.1 hi.2.2.2.1 with ⟨z, _⟩ | ⟨k2, I1, hk2, ek, e1, x1, u1⟩
      · rw [hx] at z; cases z
      · have ek2 : k2 = k := ((q_eq (by omega) (by omega)).mp ek).symm
        subst ek2
        refine ⟨I1, L, ?_, ?_, fun a ha => x1 a (by simp <;> omega), rfl⟩
        · rw [e_SL_keep_0, e1, k_I, k_1, k_2, k_3, if_pos (by decide)]
        · obtain ⟨h1, h2, h3, h4, h5, h6, h7, h8, h9⟩ := hi
          refine ⟨?_, h2.of (by rw [x1 3 (by simp <;> omega)]) rfl, h3.fr (fun a ha => x1 a (by simp <;> omega)), h4.fr (fun a h6 h7 => x1 a (by simp <;> omega)), ?_, h6.fr (fun a ha => x1 a (by simp <;> omega)), u1, h8.fr (fun a h6 h7 => x1 a (by simp <;> omega)), fun w hw => by rw [x1 127 (by simp <;> omega)]; exact h9 w hw⟩
          · show txC I1 (aTx A)
            unfold txC; rw [x1 1 (by simp <;> omega), x1 2 (by simp <;> omega)]; exact h1
          · show rlC 101 I1 _ _
            unfold rlC; rw [x1 101 (by simp <;> omega), x1 102 (by simp <;> omega)]; exact h5
    · obtain ⟨ch, hch, hK⟩ := hi.2.2.2.2.2.2.1
      rcases c_Mo_keep (h := h) (L := L) (x := nI k) (d + 98) hK (by have := hw.2.2.1.1; omega) hi.2.2.2.1 with ⟨z, _⟩ | ⟨k2, I1, hk2, ek, e1, x1, n1, u1⟩
      · rw [hx] at z; cases z
      · have ek2 : k2 = k := ((q_eq (by omega) (by omega)).mp ek).symm
        subst ek2
        refine ⟨I1, L, e1, ?_, fun a ha => x1 a (by simp <;> omega), rfl⟩
        obtain ⟨h1, h2, h3, h4, h5, h6, _, h9⟩ := hi
        refine ⟨?_, h2.of (n1 1 (by omega)) rfl, ?_, h4.fr (x1 143 (by simp)), ?_, ⟨(n1 26 (by omega)).trans h6.1, h6.2.1, fun i hi => (h6.2.2 i hi).fr (x1 155 (by simp))⟩, ⟨ch, hch, u1⟩, h9.fr (n1 35 (by omega)) (fun a h6 h7 => x1 a (by simp <;> omega))⟩
        · show txM I1 (aTx A)
          unfold txM; rw [n1 10 (by omega), x1 145 (by simp)]; exact h1
        · show bkM I1 _ _ _
          unfold bkM; rw [n1 3 (by omega), x1 142 (by simp), x1 141 (by simp)]; exact h3
        · show rlM2 I1 _ _
          unfold rlM2 rlM; rw [n1 20 (by omega), x1 149 (by simp)]; exact h5
theorem op_again {x : Int32} (hi : inv I L) : okI h d M_SL_again M_Mo_again [.int x] I L := by
  refine ok_of (fun A hw => ?_) hi
  cases hx : blw x 3 && (aKp A).1 x.toNatClampNeg with
  | false =>
    refine ⟨0, A, hw, fun I L hi => ?_, fun I L hi => ?_⟩
    · rcases c_takeUp (h := h) (L := L) (x := x) (d + 97) hi.2.2.2.2.2.2.1 with ⟨_, e⟩ | ⟨k, _, hk, rfl, hp, _⟩
      · refine ⟨I, L, ?_, hi, fun _ _ => rfl, rfl⟩
        rw [e_SL_again_0, e, k_I, k_1, k_2, k_3, if_pos (by decide)]
      · rw [(blw_iff (by omega)).mpr ⟨k, hk, rfl⟩, q_cl (by omega), hp] at hx; cases hx
    · obtain ⟨ch, hch, hK⟩ := hi.2.2.2.2.2.2.1
      rcases c_Mo_again (h := h) (L := L) (x := x) (d + 98) hK (by have := hw.2.2.1.1; omega) with ⟨_, e⟩ | ⟨k, _, hk, rfl, hp, _⟩
      · exact ⟨_, L, e, hi.th, th_lo, rfl⟩
      · rw [(blw_iff (by omega)).mpr ⟨k, hk, rfl⟩, q_cl (by omega), hp] at hx; cases hx
  | true =>
    rw [Bool.and_eq_true] at hx
    obtain ⟨hx1, hx2⟩ := hx
    obtain ⟨k, hk, rfl⟩ := (blw_iff (by omega)).mp hx1
    rw [q_cl (by omega)] at hx2
    refine ⟨1, sUn (sS A ((aKp A).2 k)) (0, (aUn A).2), hw.st (hw.2.2.2.2.2.2.1 k hk hx2) (by omega) (fun i hi => by omega), fun I L hi => ?_, fun I L hi => ?_⟩
    · rcases c_takeUp (h := h) (L := L) (x := nI k) (d + 97) hi.2.2.2.2.2.2.1 with ⟨z, _⟩ | ⟨k2, I1, hk2, ek, hp, e1, x1, n1, n2, s1⟩
      · rw [hx1, q_cl (by omega), hx2] at z; cases z
      · have ek2 : k2 = k := ((q_eq (by omega) (by omega)).mp ek).symm
        subst ek2
        refine ⟨I1, L, ?_, ?_, fun a ha => x1 a (by simp <;> omega), rfl⟩
        · rw [e_SL_again_0, e1, k_I, k_1, k_2, k_3, if_pos (by decide)]
        · obtain ⟨a, g1, g2, _⟩ := hi.2.2.2.2.2.1
          exact hi.st (fun a ha => x1 a (by unfold scC at ha; simp <;> omega)) (by rw [x1 101 (by simp)]) (fun w hw => by rw [x1 127 (by simp)]) s1 ⟨a, g1, n1.trans g2, n2, Nat.zero_le _, fun i hi => absurd hi (Nat.not_lt_zero i)⟩ (hi.2.1.of (by rw [x1 3 (by simp)]) rfl)
    · obtain ⟨ch, hch, hK⟩ := hi.2.2.2.2.2.2.1
      rcases c_Mo_again (h := h) (L := L) (x := nI k) (d + 98) hK (by have := hw.2.2.1.1; omega) with ⟨z, _⟩ | ⟨k2, I1, hk2, ek, hp, e1, x1, n1, n2, s1⟩
      · rw [hx1, q_cl (by omega), hx2] at z; cases z
      · have ek2 : k2 = k := ((q_eq (by omega) (by omega)).mp ek).symm
        subst ek2
        refine ⟨I1, L, e1, ?_, fun a ha => x1 a (by simp <;> omega), rfl⟩
        exact hi.st (fun a ha => x1 a (by unfold scM at ha; simp <;> omega)) (fun j hj => n1 j (by omega) (by omega)) s1 ⟨n2, Nat.zero_le _, fun i hi => absurd hi (Nat.not_lt_zero i)⟩ (hi.2.1.of (n1 1 (by omega) (by omega)) rfl)
end OB

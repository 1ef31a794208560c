/-! Who strikes, the reference. -/
section SM
variable {h : Bool × Nat × Nat} {I : Nat → Nat → Int32} {L : Nat → Nat → Int64} {W : Nat} {len : Nat → Nat} {lt : Nat → Nat → Nat}
theorem c_Mo_grudge (d : Nat) (hB : bkM I W len lt) {c l n st : Nat} {T : Nat → Nat} {u : Nat → Nat} (hc : c = 143 ∨ c = 144) (hl : l < 8) (hu : ∀ w, w < W → I c w = nI (u w)) (hR : rlM2 I T n) (hT : okT T n) (hst : I c 24 = nI st) (hst8 : st < 256) : ∃ I', ev_do (d + 5) M_Mo_grudge [.ref 139, .ref c, .int (nI l)] (ev_mk h I L) = ev_ri (grd len lt W u (fun l => I c (8 + l)) (fun l => I c (16 + l)) st (I c 25) T n l) (ev_mk h I' L) ∧ exc [151, 152] I I' := by
  obtain ⟨I', e1, e2⟩ := c_Mo_grudgeAt (h := h) (L := L) (off := I c (16 + l)) d hB hc hl hu hR hT hst hst8
  refine ⟨I', ?_, e2⟩
  have e16 : (16 : Int32) + nI l = nI (16 + l) := q_add 16 l
  rw [e_Mo_grudge_0 _ _ hc, e16, q_in (by omega), if_pos (by simp; omega), q_cl (by omega), e1, k_I, k_1, k_2, k_3]
  rfl
theorem c_Mo_strikeNext (d : Nat) (hB : bkM I W len lt) {c n st : Nat} {T : Nat → Nat} {u : Nat → Nat} (hc : c = 143 ∨ c = 144) (hu : ∀ w, w < W → I c w = nI (u w)) (hR : rlM2 I T n) (hT : okT T n) (hst : I c 24 = nI st) (hst8 : st < 256) : ∃ I', ev_do (d + 6) M_Mo_strikeNext [.ref 139, .ref c] (ev_mk h I L) = ev_ri (nI (msk (sks len lt W u (fun l => I c (8 + l)) (fun l => I c (16 + l)) st (I c 25) T n) 8)) (ev_mk h I' L) ∧ exc [151, 152] I I' := by
  have hcn : c ∉ [151, 152] := by simp; omega
  have loop : ∀ m l : Nat, l + m = 8 → ∀ J, exc [151, 152] I J → ∃ I', ev_at (d + 5) M_Mo_strikeNext 11 [.ref 139, .ref c, .int (nI (uns len lt u W)), .int (nI (msk (sks len lt W u (fun l => I c (8 + l)) (fun l => I c (16 + l)) st (I c 25) T n) l)), .int (nI l)] [] (ev_mk h J L) = ev_ri (nI (msk (sks len lt W u (fun l => I c (8 + l)) (fun l => I c (16 + l)) st (I c 25) T n) 8)) (ev_mk h I' L) ∧ exc [151, 152] I I' := by
    intro m
    induction m with
    | zero =>
      intro l hl J hJ
      have : l = 8 := by omega
      subst this
      exact ⟨J, by rw [e_Mo_strikeNext_11 _ _ _ _ hc, if_neg (by decide)], hJ⟩
    | succ m ih =>
      intro l hl J hJ
      have ei1 : nI l + 1 = nI (l + 1) := q_add l 1
      have esh : (1 : Int32) <<< (nI l &&& 31) = nI (2 ^ l) := by
        have := x_sh (j := l) (by omega) true
        simpa using this
      have eo : ∀ a : Nat, nI a ||| (0 : Int32) = nI a := fun a => by
        rw [show (0 : Int32) = nI 0 from rfl, fa_or, Nat.or_zero]
      have hbit : (uns len lt u W).testBit l = decide (0 < sgn len lt u l true W) := by
        unfold uns
        rw [msk_bit, decide_eq_true (show l < 8 by omega)]; simp
      rw [e_Mo_strikeNext_11 _ _ _ _ hc, if_pos (show nI l < (8 : Int32) from (q_lt (b := 8) (by omega) (by omega)).mpr (by omega)), c_Mo_has (d + 4) (by omega), k_I, k_1, k_2, k_3, hbit, ei1, esh, fa_or, eo]
      by_cases p1 : 0 < sgn len lt u l true W
      · rw [decide_eq_true p1, if_neg (by decide)]
        obtain ⟨J', g1, g2⟩ := c_Mo_grudge (h := h) (L := L) d (hB.ex hJ (by simp) (by simp) (by simp)) hc (by omega : l < 8) (fun w hw => by rw [hJ c hcn]; exact hu w hw) (hR.ex hJ (by simp) (by simp)) hT (by rw [hJ c hcn]; exact hst) hst8
        rw [hJ c hcn] at g1
        rw [g1, k_I, k_1, k_2, k_3]
        have ih' := ih (l + 1) (by omega) J' (hJ.tr g2)
        rw [msk] at ih'
        by_cases p2 : 0 < grd len lt W u (fun l => I c (8 + l)) (fun l => I c (16 + l)) st (I c 25) T n l
        · rw [if_pos p2]
          rw [show sks len lt W u (fun l => I c (8 + l)) (fun l => I c (16 + l)) st (I c 25) T n l = true by unfold sks; rw [decide_eq_true p1, decide_eq_true p2]; rfl, if_pos rfl] at ih'
          exact ih'
        · rw [if_neg p2]
          rw [show sks len lt W u (fun l => I c (8 + l)) (fun l => I c (16 + l)) st (I c 25) T n l = false by unfold sks; rw [decide_eq_true p1, decide_eq_false p2]; rfl, if_neg (by decide), Nat.or_zero] at ih'
          exact ih'
      · rw [decide_eq_false p1, if_pos (by decide)]
        have ih' := ih (l + 1) (by omega) J hJ
        rw [msk, show sks len lt W u (fun l => I c (8 + l)) (fun l => I c (16 + l)) st (I c 25) T n l = false by unfold sks; rw [decide_eq_false p1]; rfl, if_neg (by decide), Nat.or_zero] at ih'
        exact ih'
  rw [e_Mo_strikeNext_0 _ hc, c_Mo_unsaid (d + 2) hB hc hu, k_I, k_1, k_2, k_3]
  exact loop 8 0 (by omega) I exc.rf
end SM

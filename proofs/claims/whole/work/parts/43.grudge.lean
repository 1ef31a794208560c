/-! A grudge, the class. -/
def thg (mood off : Int32) (us sd sc : Nat) (day : Int32) (l : Nat) : Nat → Int32
  | 0 => mood
  | 1 => off
  | 2 => nI us
  | 3 => nI sd
  | 4 => nI sc
  | 5 => day - day / 7 * 7
  | _ => nI l
section GR
variable {h : Bool × Nat × Nat} {I : Nat → Nat → Int32} {L : Nat → Nat → Int64}
theorem c_Union_grudge (d : Nat) {k c l n us sd st : Nat} {off : Int32} {T : Nat → Nat} (hk : k = 101 ∨ k = 105) (hc : c = 17 ∨ c = 21) (hl : l < 8) (hR : rlC k I T n) (hT : okT T n) (hus : I 112 l = nI us) (hsd : I 113 l = nI sd) (hst : I c 3 = nI st) (hst8 : st < 256) : ∃ I', ev_do (d + 3) M_Union_grudge [.ref 109, .ref k, .ref c, .int (nI l), .int off] (ev_mk h I L) = ev_ri ((rrun (thg (I (c + 2) l) off us sd (pcn st) (I c 4) l) T n).getLastD 0) (ev_mk h I' L) ∧ exc [111, k, k + 2] I I' ∧ ∀ b, b ≠ 3 → I' k b = I k b := by
  have hne : c ≠ 111 := by omega
  have hne2 : k ≠ 111 := by omega
  have hne3 : k + 1 ≠ 111 := by omega
  obtain ⟨J, hJ⟩ : ∃ J, J = ev_up (ev_up (ev_up (ev_up (ev_up (ev_up (ev_up I 111 0 (I (c + 2) l)) 111 1 off) 111 2 (nI us)) 111 3 (nI sd)) 111 4 (nI (pcn st))) 111 5 (I c 4 - I c 4 / 7 * 7)) 111 6 (nI l) := ⟨_, rfl⟩
  have hx : exc [111] I J := by
    rw [hJ]
    exact ((((((exc.rf.up (by simp)).up (by simp)).up (by simp)).up (by simp)).up (by simp)).up (by simp)).up (by simp)
  have hRJ : rlC k J T n := by
    refine ⟨by rw [hx k (by simpa using hne2)]; exact hR.1, fun j hj => ?_⟩
    rw [hx (k + 1) (by simpa using hne3)]
    exact hR.2 j hj
  have hth : ∀ j, j < 7 → J 111 j = thg (I (c + 2) l) off us sd (pcn st) (I c 4) l j := by
    intro j hj
    rw [hJ]
    match j, hj with
    | 0, _ => rfl
    | 1, _ => rfl
    | 2, _ => rfl
    | 3, _ => rfl
    | 4, _ => rfl
    | 5, _ => rfl
    | 6, _ => rfl
  obtain ⟨I', e1, e2⟩ := c_workOut (h := h) (L := L) d hk hRJ hT hth
  refine ⟨I', ?_, (hx.mono (by simp)).tr (e2.1.mono (by simp)), fun b hb => (e2.2 b hb).trans (by rw [hx k (by simpa using hne2)])⟩
  rw [e_Union_grudge_0 _ _ _ hk hc, q_in (by omega), if_pos (c := decide (l < 8) = true) (by simpa using hl), if_pos (c := decide (l < 8) = true) (by simpa using hl), if_pos (c := decide (l < 8) = true) (by simpa using hl), q_cl (by omega), hus, hsd]
  rw [u_c (a := c) (b := 3) hne, u_c (a := c) (b := 3) hne, u_c (a := c) (b := 3) hne, u_c (a := c) (b := 3) hne, hst, c_bitCount (d + 1) hst8, k_I, k_1, k_2, k_3]
  rw [u_c (a := c) (b := 4) hne, u_c (a := c) (b := 4) hne, u_c (a := c) (b := 4) hne, u_c (a := c) (b := 4) hne, u_c (a := c) (b := 4) hne, ← hJ, e1, k_I, k_1, k_2, k_3]
end GR

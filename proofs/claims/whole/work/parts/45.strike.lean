/-! Who strikes, the class. -/
/-- the grudge of letter l -/
def grd (len : Nat → Nat) (lt : Nat → Nat → Nat) (W : Nat) (u : Nat → Nat) (md ofr : Nat → Int32) (st : Nat) (day : Int32) (T : Nat → Nat) (n l : Nat) : Int32 := (rrun (thg (md l) (ofr l) (sgn len lt u l true W) (sgn len lt u l false W) (pcn st) day l) T n).getLastD 0
def sks (len : Nat → Nat) (lt : Nat → Nat → Nat) (W : Nat) (u : Nat → Nat) (md ofr : Nat → Int32) (st : Nat) (day : Int32) (T : Nat → Nat) (n l : Nat) : Bool := decide (0 < sgn len lt u l true W) && decide (0 < grd len lt W u md ofr st day T n l)
section ST
variable {h : Bool × Nat × Nat} {I : Nat → Nat → Int32} {L : Nat → Nat → Int64} {W : Nat} {len : Nat → Nat} {lt : Nat → Nat → Nat}
theorem c_Union_strikers (d : Nat) (hB : bkC I W len lt) {k c n st : Nat} {T : Nat → Nat} {u : Nat → Nat} (hk : k = 101 ∨ k = 105) (hc : c = 17 ∨ c = 21) (hu : ∀ w, w < W → I (c + 1) w = nI (u w)) (hR : rlC k I T n) (hT : okT T n) (hst : I c 3 = nI st) (hst8 : st < 256) : ∃ I', ev_do (d + 4) M_Union_strikers [.ref 109, .ref k, .ref c] (ev_mk h I L) = ev_ri (nI (msk (sks len lt W u (I (c + 2)) (I (c + 3)) st (I c 4) T n) 8)) (ev_mk h I' L) ∧ exc [112, 113, 111, k, k + 2] I I' ∧ (∀ b, b ≠ 3 → I' k b = I k b) ∧ ∀ l, l < 8 → I' 112 l = nI (sgn len lt u l true W) ∧ I' 113 l = nI (sgn len lt u l false W) := by
  obtain ⟨I1, e1, x1, f1⟩ := c_Union_tally (h := h) (L := L) (d + 1) hB hc hu
  have hW8 := hB.2.1
  have loop : ∀ m l : Nat, l + m = 8 → ∀ J, exc [112, 113, 111, k, k + 2] I J → (∀ b, b ≠ 3 → J k b = I k b) → (∀ l, l < 8 → J 112 l = nI (sgn len lt u l true W) ∧ J 113 l = nI (sgn len lt u l false W)) → ∃ I', ev_at (d + 3) M_Union_strikers 10 [.ref 109, .ref k, .ref c, .int (nI (msk (sks len lt W u (I (c + 2)) (I (c + 3)) st (I c 4) T n) l)), .int (nI l)] [] (ev_mk h J L) = ev_ri (nI (msk (sks len lt W u (I (c + 2)) (I (c + 3)) st (I c 4) T n) 8)) (ev_mk h I' L) ∧ exc [112, 113, 111, k, k + 2] I I' ∧ (∀ b, b ≠ 3 → I' k b = I k b) ∧ ∀ l, l < 8 → I' 112 l = nI (sgn len lt u l true W) ∧ I' 113 l = nI (sgn len lt u l false W) := by
    intro m
    induction m with
    | zero =>
      intro l hl J hJ hb hj
      have : l = 8 := by omega
      subst this
      exact ⟨J, by rw [e_Union_strikers_10 _ _ _ hk hc, if_neg (by decide)], hJ, hb, hj⟩
    | succ m ih =>
      intro l hl J hJ hb hj
      obtain ⟨j1, j2⟩ := hj l (by omega)
      have hs := sgn_le (len := len) (lt := lt) (u := u) (l := l) (b := true) (n := W) (fun w hw => (hB.2.2 w (by omega)).2.1)
      have ei1 : nI l + 1 = nI (l + 1) := q_add l 1
      have e0 : (0 : Int32) < nI (sgn len lt u l true W) ↔ 0 < sgn len lt u l true W := q_lt (a := 0) (by omega) (by omega)
      have esh : (1 : Int32) <<< (nI l &&& 31) = nI (2 ^ l) := by
        have := x_sh (j := l) (by omega) true
        simpa using this
      have hcc : ∀ a, a = c ∨ a = c + 1 ∨ a = c + 2 ∨ a = c + 3 → J a = I a := by
        intro a ha
        apply hJ
        simp
        omega
      rw [e_Union_strikers_10 _ _ _ hk hc, if_pos (show nI l < (8 : Int32) from (q_lt (b := 8) (by omega) (by omega)).mpr (by omega)), q_in (by omega), if_pos (c := decide (l < 8) = true) (by simp; omega), if_pos (c := decide (l < 8) = true) (by simp; omega), q_cl (by omega), j1, ei1, esh, fa_or, hcc (c + 3) (by omega)]
      by_cases p1 : 0 < sgn len lt u l true W
      · rw [if_pos (e0.mpr p1)]
        have hRJ : rlC k J T n := ⟨(hb 1 (by decide)).trans hR.1, fun j hj => by rw [hJ (k + 1) (by simp; omega)]; exact hR.2 j hj⟩
        obtain ⟨J', g1, g2, g3⟩ := c_Union_grudge (h := h) (L := L) (off := I (c + 3) l) d hk hc (by omega : l < 8) hRJ hT j1 j2 (by rw [hcc c (by omega)]; exact hst) hst8
        rw [hcc (c + 2) (by omega), hcc c (by omega)] at g1
        rw [g1, k_I, k_1, k_2, k_3]
        have hJ' : exc [112, 113, 111, k, k + 2] I J' := hJ.tr (g2.mono (by simp))
        have hb' : ∀ b, b ≠ 3 → J' k b = I k b := fun b hb3 => (g3 b hb3).trans (hb b hb3)
        have hj' : ∀ l, l < 8 → J' 112 l = nI (sgn len lt u l true W) ∧ J' 113 l = nI (sgn len lt u l false W) := by
          rw [g2 112 (by simp; omega), g2 113 (by simp; omega)]
          exact hj
        have ih' := ih (l + 1) (by omega) J' hJ' hb' hj'
        rw [msk] at ih'
        by_cases p2 : 0 < grd len lt W u (I (c + 2)) (I (c + 3)) st (I c 4) T n l
        · rw [if_pos (show 0 < (rrun _ T n).getLastD 0 from p2)]
          rw [show sks len lt W u (I (c + 2)) (I (c + 3)) st (I c 4) T n l = true by unfold sks; rw [decide_eq_true p1, decide_eq_true p2]; rfl, if_pos rfl] at ih'
          exact ih'
        · rw [if_neg (show ¬ 0 < (rrun _ T n).getLastD 0 from p2)]
          rw [show sks len lt W u (I (c + 2)) (I (c + 3)) st (I c 4) T n l = false by unfold sks; rw [decide_eq_true p1, decide_eq_false p2]; rfl, if_neg (by decide), Nat.or_zero] at ih'
          exact ih'
      · rw [if_neg (fun z => p1 (e0.mp z))]
        have ih' := ih (l + 1) (by omega) J hJ hb hj
        rw [msk, show sks len lt W u (I (c + 2)) (I (c + 3)) st (I c 4) T n l = false by unfold sks; rw [decide_eq_false p1]; rfl, if_neg (by decide), Nat.or_zero] at ih'
        exact ih'
  rw [e_Union_strikers_0 _ hk hc, e1, k_V, k_1, k_2, k_3]
  exact loop 8 0 (by omega) I1 (x1.mono (by simp)) (fun b _ => by rw [x1 k (by simp; omega)]) f1
end ST

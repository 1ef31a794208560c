/-! A rule worked out, the class. -/
def rlC (k : Nat) (I : Nat → Nat → Int32) (T : Nat → Nat) (n : Nat) : Prop := I k 1 = nI n ∧ ∀ j, j < n → I (k + 1) j = cT (T j)
theorem cT_th : ∀ j, j < 7 → -(nI (j + 1)) < 0 ∧ ¬ -(nI (j + 1)) < (-7) ∧ (-1) - -(nI (j + 1)) = nI j := by decide +kernel
theorem cT_op : ∀ a, a < 7 → -(nI (rch a)) < 0 ∧ -(nI (rch a)) < (-7) ∧ ¬ -(nI (rch a)) = (-256) ∧ - -(nI (rch a)) = nI (rch a) := by decide +kernel
theorem last_split {s : List Int32} (h : 1 ≤ s.length) : s = s.dropLast ++ [s.getLastD 0] := by
  rcases List.eq_nil_or_concat s with rfl | ⟨t, a, rfl⟩
  · simp at h
  · simp
section WO
variable {h : Bool × Nat × Nat} {I : Nat → Nat → Int32} {L : Nat → Nat → Int64}
theorem c_workOut (d : Nat) {k n : Nat} {T : Nat → Nat} {th : Nat → Int32} (hk : k = 101 ∨ k = 105) (hR : rlC k I T n) (hT : okT T n) (hth : ∀ j, j < 7 → I 111 j = th j) : ∃ I', ev_do (d + 2) M_Rule_workOut [.ref k, .ref 111] (ev_mk h I L) = ev_ri ((rrun th T n).getLastD 0) (ev_mk h I' L) ∧ rch2 k I I' := by
  have hn := hT.1
  have loop : ∀ m i : Nat, i + m = n → ∀ J, rch2 k I J → stk k J (rrun th T i) → ∃ I', ev_at (d + 1) M_Rule_workOut 7 [.ref k, .ref 111, .int (nI i), .float 0, .float 0] [] (ev_mk h J L) = ev_ri ((rrun th T n).getLastD 0) (ev_mk h I' L) ∧ rch2 k I I' := by
    intro m
    induction m with
    | zero =>
      intro i hi J hJ hs
      have ei : i = n := by omega
      subst ei
      have hsz : J k 1 = nI i := (hJ.2 1 (by decide)).trans hR.1
      have hlen : (rrun th T i).length = 1 := (rrun_len hT (Nat.le_refl _)).trans hT.2.1
      have hsp := last_split (s := rrun th T i) (by omega)
      rw [hsp] at hs
      obtain ⟨I', p1, p2, p3⟩ := c_pop (h := h) (L := L) d hk hs (by simp; omega)
      refine ⟨I', ?_, hJ.tr p3⟩
      rw [e_Rule_workOut_7 _ _ hk, hsz, if_neg (fun z => absurd ((q_lt (by omega) (by omega)).mp z) (by omega)), p1, k_I, k_1, k_2, k_3]
    | succ m ih =>
      intro i hi J hJ hs
      have hsz : J k 1 = nI n := (hJ.2 1 (by decide)).trans hR.1
      have hcd : J (k + 1) i = cT (T i) := by rw [hJ.1 (k + 1) (by simp)]; exact hR.2 i (by omega)
      have hth' : ∀ j, j < 7 → J 111 j = th j := fun j hj => by rw [hJ.1 111 (by rcases hk with rfl | rfl <;> simp)]; exact hth j hj
      have hlen : (rrun th T i).length = rdp T i := rrun_len hT (by omega)
      have hle := rdp_le T i
      have htk := hT.2.2 i (by omega)
      rw [e_Rule_workOut_7 _ _ hk, hsz, if_pos ((q_lt (by omega) (by omega)).mpr (by omega)), q_in (by omega), if_pos (by simp; omega), q_cl (by omega), hcd, show (1 : Int32) = nI 1 from rfl, q_add]
      have er : rrun th T (i + 1) = stp th (T i) (rrun th T i) := rfl
      rcases htk with t1 | t1 | t1 | t1
      · -- a number
        have ec : cT (T i) = nI (T i) := if_pos t1
        rw [ec, if_neg (q_nn (by omega))]
        obtain ⟨I', p1, p2, p3⟩ := c_push (h := h) (L := L) (x := nI (T i)) d hk hs (by omega)
        rw [p1, k_V, k_1, k_2, k_3]
        refine ih (i + 1) (by omega) I' (hJ.tr p3) ?_
        rw [er, stp, if_pos t1]
        exact p2
      · -- a thing
        have n1 : ¬ T i < 1000 := by omega
        have n2 : T i < 2000 := by omega
        have ec : cT (T i) = -(nI (T i - 1000 + 1)) := by
          unfold cT
          rw [if_neg n1, if_pos n2, show T i - 999 = T i - 1000 + 1 by omega]
        obtain ⟨c1, c2, c3⟩ := cT_th (T i - 1000) (by omega)
        rw [ec, if_pos c1, if_neg c2, show -nI 1 - -nI (T i - 1000 + 1) = nI (T i - 1000) from c3, e_Rule_workOut_46 _ _ _ hk, q_in (by omega), if_pos (by simp; omega), q_cl (by omega), hth' _ (by omega)]
        obtain ⟨I', p1, p2, p3⟩ := c_push (h := h) (L := L) (x := th (T i - 1000)) d hk hs (by omega)
        rw [p1, k_V, k_1, k_2, k_3, show (1 : Int32) = nI 1 from rfl, q_add]
        refine ih (i + 1) (by omega) I' (hJ.tr p3) ?_
        rw [er, stp, if_neg n1, if_pos n2]
        exact p2
      · -- a sign between
        have n1 : ¬ T i < 1000 := by omega
        have n2 : ¬ T i < 2000 := by omega
        have n3 : ¬ T i = 3000 := by omega
        have ec : cT (T i) = -(nI (rch (T i - 2000))) := by
          unfold cT
          rw [if_neg n1, if_neg n2, if_neg n3]
        obtain ⟨c1, c2, c3, c4⟩ := cT_op (T i - 2000) (by omega)
        rw [ec, if_pos c1, if_pos c2, if_neg c3, c4]
        have hsp := last_split (s := rrun th T i) (by omega)
        have hsp2 := last_split (s := (rrun th T i).dropLast) (by simp; omega)
        have hs' := hs
        rw [hsp] at hs'
        obtain ⟨J1, p1, p2, p3⟩ := c_pop (h := h) (L := L) d hk hs' (by simp; omega)
        rw [hsp2] at p2
        obtain ⟨J2, r1, r2, r3⟩ := c_pop (h := h) (L := L) d hk p2 (by simp; omega)
        rw [p1, k_I, k_1, k_2, k_3, r1, k_I, k_1, k_2, k_3, c_between d (by omega), k_I, k_1, k_2, k_3]
        obtain ⟨J3, s1, s2, s3⟩ := c_push (h := h) (L := L) (x := wk (T i - 2000) ((rrun th T i).dropLast.getLastD 0) ((rrun th T i).getLastD 0)) d hk r2 (by simp; omega)
        rw [s1, k_V, k_1, k_2, k_3]
        refine ih (i + 1) (by omega) J3 (((hJ.tr p3).tr r3).tr s3) ?_
        rw [er, stp, if_neg n1, if_neg n2, if_neg n3]
        exact s2
      · -- minus ahead
        have n1 : ¬ T i < 1000 := by omega
        have n2 : ¬ T i < 2000 := by omega
        have ec : cT (T i) = -256 := by
          unfold cT
          rw [if_neg n1, if_neg n2, if_pos t1.1]
        rw [ec, if_pos (by decide), if_pos (by decide), if_pos rfl]
        have hsp := last_split (s := rrun th T i) (by omega)
        have hs' := hs
        rw [hsp] at hs'
        obtain ⟨J1, p1, p2, p3⟩ := c_pop (h := h) (L := L) d hk hs' (by simp; omega)
        rw [p1, k_I, k_1, k_2, k_3]
        obtain ⟨J3, s1, s2, s3⟩ := c_push (h := h) (L := L) (x := -((rrun th T i).getLastD 0)) d hk p2 (by simp; omega)
        rw [s1, k_V, k_1, k_2, k_3]
        refine ih (i + 1) (by omega) J3 ((hJ.tr p3).tr s3) ?_
        rw [er, stp, if_neg n1, if_neg n2, if_pos t1.1]
        exact s2
  rw [e_Rule_workOut_0 _ hk]
  exact loop n 0 (by omega) (ev_up I k 3 0) ⟨exc.up exc.rf (by simp), fun b hb => u_j hb⟩ ⟨u_at _ _ _ _, fun j hj => by simp [rrun] at hj⟩
end WO

/-! A rule worked out, the reference. -/
def rlM (I : Nat → Nat → Int32) (T : Nat → Nat) (n : Nat) : Prop := I 139 20 = nI n ∧ ∀ j, j < n → I 149 j = nI (T j)
def stM (J : Nat → Nat → Int32) (s : List Int32) : Prop := ∀ j, j < s.length → J 151 j = s.getD j 0
theorem stM.push {J : Nat → Nat → Int32} {s : List Int32} {x : Int32} (h : stM J s) : stM (ev_up J 151 s.length x) (s ++ [x]) := by
  intro j hj
  by_cases e : j = s.length
  · subst e
    rw [u_at]; simp
  · rw [u_j e, h j (by simp at hj; omega), List.getD_eq_getElem?_getD, List.getD_eq_getElem?_getD, List.getElem?_append_left (by simp at hj; omega)]
theorem stM.drop {J : Nat → Nat → Int32} {s : List Int32} {x : Int32} (h : stM J (s ++ [x])) : stM J s ∧ J 151 s.length = x := by
  refine ⟨fun j hj => ?_, ?_⟩
  · rw [h j (by simp; omega), List.getD_eq_getElem?_getD, List.getD_eq_getElem?_getD, List.getElem?_append_left hj]
  · rw [h s.length (by simp)]; simp
theorem q_m1 (m : Nat) : nI (m + 1) + (-1) = nI m := by
  have e : nI (m + 1) = nI m + nI 1 := (q_add m 1).symm
  rw [e, show nI 1 = (1 : Int32) from rfl, Int32.add_assoc, show (1 : Int32) + (-1) = 0 by decide, Int32.add_zero]
section RD
variable {h : Bool × Nat × Nat} {I : Nat → Nat → Int32} {L : Nat → Nat → Int64}
theorem c_worked (d : Nat) {a : Nat} (ha : a < 7) (x y : Int32) : ev_do (d + 2) M_Mo_worked [.int (nI a), .int x, .int y] (ev_mk h I L) = ev_ri (wk a x y) (ev_mk h I L) := by
  rw [e_Mo_worked_0]
  have f1 := c_Mo_flag (h := h) (I := I) (L := L) d true
  have f0 := c_Mo_flag (h := h) (I := I) (L := L) d false
  rw [show fl true = (1 : Int32) from rfl] at f1
  rw [show fl false = (0 : Int32) from rfl] at f0
  simp only [f1, f0, k_I, k_1, k_2, k_3]
  match a, ha with
  | 0, _ =>
    simp only [wk]
    rw [if_pos (by decide)]
    by_cases e : x < y
    · rw [if_pos e, decide_eq_true e]; rfl
    · rw [if_neg e, decide_eq_false e]; rfl
  | 1, _ =>
    simp only [wk]
    rw [if_neg (by decide), if_pos (by decide)]
    by_cases e : y < x
    · rw [if_pos e, decide_eq_true e]; rfl
    · rw [if_neg e, decide_eq_false e]; rfl
  | 2, _ =>
    simp only [wk]
    rw [if_neg (by decide), if_neg (by decide), if_pos (by decide)]
    by_cases e : x = y
    · rw [if_pos e, decide_eq_true e]; rfl
    · rw [if_neg e, decide_eq_false e]; rfl
  | 3, _ => simp only [wk]; rw [if_neg (by decide), if_neg (by decide), if_neg (by decide), if_pos (by decide)]
  | 4, _ => simp only [wk]; rw [if_neg (by decide), if_neg (by decide), if_neg (by decide), if_neg (by decide), if_pos (by decide)]
  | 5, _ => simp only [wk]; rw [if_neg (by decide), if_neg (by decide), if_neg (by decide), if_neg (by decide), if_neg (by decide), if_pos (by decide)]
  | 6, _ =>
    simp only [wk]
    rw [if_neg (by decide), if_neg (by decide), if_neg (by decide), if_neg (by decide), if_neg (by decide), if_neg (by decide)]
    by_cases e : y = 0
    · rw [if_pos e, if_pos e]
    · rw [if_neg e, if_neg e, if_neg e]
theorem c_ruled (d : Nat) {n : Nat} {T : Nat → Nat} {th : Nat → Int32} (hR : rlM I T n) (hn0 : 0 < n) (hT : okT T n) (hth : ∀ j, j < 7 → I 152 j = th j) : ∃ I', ev_do (d + 3) M_Mo_ruled [.ref 139] (ev_mk h I L) = ev_ri ((rrun th T n).getLastD 0) (ev_mk h I' L) ∧ exc [151] I I' := by
  have hn := hT.1
  have loop : ∀ m i : Nat, i + m = n → ∀ J, exc [151] I J → stM J (rrun th T i) → ∃ I', ev_at (d + 2) M_Mo_ruled 4 [.ref 139, .int (nI (rrun th T i).length), .int (nI i), .float 0] [] (ev_mk h J L) = ev_ri ((rrun th T n).getLastD 0) (ev_mk h I' L) ∧ exc [151] I I' := by
    intro m
    induction m with
    | zero =>
      intro i hi J hJ hs
      have ei : i = n := by omega
      subst ei
      have hsz : J 139 20 = nI i := by rw [hJ 139 (by simp)]; exact hR.1
      have hlen : (rrun th T i).length = 1 := (rrun_len hT (Nat.le_refl _)).trans hT.2.1
      refine ⟨J, ?_, hJ⟩
      rw [e_Mo_ruled_4, hsz, if_neg (fun z => absurd ((q_lt (by omega) (by omega)).mp z) (by omega)), if_neg (show ¬ nI i = (0 : Int32) from fun z => absurd ((q_eq (b := 0) (by omega) (by omega)).mp z) (by omega)), hs 0 (by omega)]
      match hx : rrun th T i, hlen with
      | [x], _ => rfl
    | succ m ih =>
      intro i hi J hJ hs
      have hsz : J 139 20 = nI n := by rw [hJ 139 (by simp)]; exact hR.1
      have hcd : J 149 i = nI (T i) := by rw [hJ 149 (by simp)]; exact hR.2 i (by omega)
      have hth' : ∀ j, j < 7 → J 152 j = th j := fun j hj => by rw [hJ 152 (by simp)]; exact hth j hj
      have hlen : (rrun th T i).length = rdp T i := rrun_len hT (by omega)
      have hle := rdp_le T i
      have htk := hT.2.2 i (by omega)
      have er : rrun th T (i + 1) = stp th (T i) (rrun th T i) := rfl
      have hT9 : T i < 4000 := by omega
      have c3 : nI (T i) = (3000 : Int32) ↔ T i = 3000 := q_eq (b := 3000) (by omega) (by omega)
      have c2 : nI (T i) < (2000 : Int32) ↔ T i < 2000 := q_lt (b := 2000) (by omega) (by omega)
      have c1 : nI (T i) < (1000 : Int32) ↔ T i < 1000 := q_lt (b := 1000) (by omega) (by omega)
      have ei1 : nI i + 1 = nI (i + 1) := q_add i 1
      rw [e_Mo_ruled_4, hsz, if_pos ((q_lt (by omega) (by omega)).mpr (by omega)), q_in (by omega), if_pos (by simp; omega), q_cl (by omega), hcd, ei1]
      have el1 : nI (rrun th T i).length + 1 = nI ((rrun th T i).length + 1) := q_add _ 1
      rcases htk with t1 | t1 | t1 | t1
      · rw [if_neg (fun z => absurd (c3.mp z) (by omega)), if_pos (c2.mpr (by omega)), if_pos (c1.mpr t1), q_in (by omega), if_pos (by simp; omega), q_cl (by omega), el1]
        have := ih (i + 1) (by omega) (ev_up J 151 (rrun th T i).length (nI (T i))) (hJ.up (by simp)) (by rw [er, stp, if_pos t1]; exact hs.push)
        rw [er, stp, if_pos t1, List.length_append] at this
        exact this
      · have n1 : ¬ T i < 1000 := by omega
        have n2 : T i < 2000 := by omega
        have e5 : nI (T i) - 1000 = nI (T i - 1000) := q_sub (a := T i) (b := 1000) t1.1
        rw [if_neg (fun z => absurd (c3.mp z) (by omega)), if_pos (c2.mpr n2), if_neg (fun z => n1 (c1.mp z)), e5, q_in (by omega), if_pos (by simp; omega), q_in (by omega), if_pos (by simp; omega), q_cl (by omega), q_cl (by omega), hth' _ (by omega), el1]
        have := ih (i + 1) (by omega) (ev_up J 151 (rrun th T i).length (th (T i - 1000))) (hJ.up (by simp)) (by rw [er, stp, if_neg n1, if_pos n2]; exact hs.push)
        rw [er, stp, if_neg n1, if_pos n2, List.length_append] at this
        exact this
      · have n1 : ¬ T i < 1000 := by omega
        have n2 : ¬ T i < 2000 := by omega
        have n3 : ¬ T i = 3000 := by omega
        have hsp := last_split (s := rrun th T i) (by omega)
        have hsp2 := last_split (s := (rrun th T i).dropLast) (by simp; omega)
        have hl1 : (rrun th T i).length = (rrun th T i).dropLast.dropLast.length + 1 + 1 := by simp; omega
        have hs1 : stM J ((rrun th T i).dropLast ++ [(rrun th T i).getLastD 0]) := by rw [← hsp]; exact hs
        obtain ⟨s1, s2⟩ := hs1.drop
        rw [hsp2] at s1
        obtain ⟨s3, s4⟩ := s1.drop
        have hd1 : (rrun th T i).dropLast.length = (rrun th T i).dropLast.dropLast.length + 1 := by simp; omega
        rw [hd1] at s2
        have e5 : nI (T i) - 2000 = nI (T i - 2000) := q_sub (a := T i) (b := 2000) t1.1
        generalize hq : (rrun th T i).dropLast.dropLast.length = q at *
        have e6 : nI (q + 1) - 1 = nI q := q_sub (a := q + 1) (b := 1) (by omega)
        rw [if_neg (fun z => absurd (c3.mp z) n3), if_neg (fun z => n2 (c2.mp z)), hl1, q_m1, e_Mo_ruled_56, e6, e5, q_in (by omega), if_pos (c := decide (q < 80) = true) (by simp; omega), q_in (by omega), if_pos (by simp; omega), q_cl (by omega), q_cl (by omega), s4, s2, c_worked d (by omega), k_I, k_1, k_2, k_3, if_pos (c := decide (q < 80) = true) (by simp; omega), ei1]
        have := ih (i + 1) (by omega) (ev_up J 151 q (wk (T i - 2000) ((rrun th T i).dropLast.getLastD 0) ((rrun th T i).getLastD 0))) (hJ.up (by simp)) (by rw [er, stp, if_neg n1, if_neg n2, if_neg n3, ← hq]; exact s3.push)
        rw [er, stp, if_neg n1, if_neg n2, if_neg n3, List.length_append, hq] at this
        exact this
      · have n1 : ¬ T i < 1000 := by omega
        have n2 : ¬ T i < 2000 := by omega
        have hsp := last_split (s := rrun th T i) (by omega)
        have hs1 : stM J ((rrun th T i).dropLast ++ [(rrun th T i).getLastD 0]) := by rw [← hsp]; exact hs
        obtain ⟨s1, s2⟩ := hs1.drop
        have hl1 : (rrun th T i).length = (rrun th T i).dropLast.length + 1 := by simp; omega
        generalize hq : (rrun th T i).dropLast.length = q at *
        have e6 : nI (q + 1) - 1 = nI q := q_sub (a := q + 1) (b := 1) (by omega)
        rw [if_pos (c3.mpr t1.1), hl1, e6, q_in (by omega), if_pos (c := decide (q < 80) = true) (by simp; omega), if_pos (c := decide (q < 80) = true) (by simp; omega), q_cl (by omega), s2]
        have := ih (i + 1) (by omega) (ev_up J 151 q (-((rrun th T i).getLastD 0))) (hJ.up (by simp)) (by rw [er, stp, if_neg n1, if_neg n2, if_pos t1.1, ← hq]; exact s1.push)
        rw [er, stp, if_neg n1, if_neg n2, if_pos t1.1, List.length_append, hq] at this
        exact this
  rw [e_Mo_ruled_0]
  exact loop n 0 (by omega) I exc.rf (fun j hj => by simp [rrun] at hj)
theorem c_ruled0 (d : Nat) (hR : I 139 20 = 0) : ev_do (d + 1) M_Mo_ruled [.ref 139] (ev_mk h I L) = ev_ri (I 152 0 - 2 * I 152 1 - 3) (ev_mk h I L) := by
  rw [e_Mo_ruled_0, e_Mo_ruled_4, hR, if_neg (by decide), if_pos rfl]
end RD

/-! The class's count of signs. -/
theorem bkC.ex {ks : List Nat} {I J : Nat → Nat → Int32} {W : Nat} {len : Nat → Nat} {lt : Nat → Nat → Nat} (hB : bkC I W len lt) (h : exc ks I J) (hk : ∀ a, (a = 5 ∨ a = 15 ∨ (7 ≤ a ∧ a < 15)) → a ∉ ks) : bkC J W len lt := by
  obtain ⟨h1, h2, h3⟩ := hB
  refine ⟨by rw [h 5 (hk 5 (by omega))]; exact h1, h2, fun w hw => ?_⟩
  rw [h 15 (hk 15 (by omega)), h (7 + w) (hk (7 + w) (by omega))]
  exact h3 w hw
section TA
variable {h : Bool × Nat × Nat} {I : Nat → Nat → Int32} {L : Nat → Nat → Int64} {W : Nat} {len : Nat → Nat} {lt : Nat → Nat → Nat}
theorem c_fill8 (d : Nat) {k : Nat} {x : Int32} (hk : k = 19 ∨ k = 112 ∨ k = 113 ∨ k = 128) : ∃ I', ev_do (d + 1) M_Arr_fill [.ref k, .int x] (ev_mk h I L) = ev_rn (ev_mk h I' L) ∧ exc [k] I I' ∧ ∀ j, j < 8 → I' k j = x := by
  have loop : ∀ m i : Nat, i + m = 8 → ∀ J, exc [k] I J → (∀ j, j < i → J k j = x) → ∃ I', ev_at d M_Arr_fill 5 [.ref k, .int x, .int (nI i), .int (nI 8)] [] (ev_mk h J L) = ev_rn (ev_mk h I' L) ∧ exc [k] I I' ∧ ∀ j, j < 8 → I' k j = x := by
    intro m
    induction m with
    | zero =>
      intro i hi J hJ hj
      refine ⟨J, ?_, hJ, fun j h8 => hj j (by omega)⟩
      rw [e_Arr_fill_5_v1 _ _ _ _ hk, if_neg (fun z => absurd ((q_lt (by omega) (by omega)).mp z) (by omega))]
    | succ m ih =>
      intro i hi J hJ hj
      rw [e_Arr_fill_5_v1 _ _ _ _ hk, if_pos ((q_lt (by omega) (by omega)).mpr (by omega)), q_in (by omega), if_pos (by simp; omega), q_cl (by omega), show (1 : Int32) = nI 1 from rfl, q_add]
      refine ih (i + 1) (by omega) _ (hJ.up (by simp)) (fun j hj2 => ?_)
      by_cases e : j = i
      · rw [e, u_at]
      · rw [u_j e]; exact hj j (by omega)
  rw [e_Arr_fill_0_v1 _ _ hk]
  exact loop 8 0 (by omega) I exc.rf (fun j hj => by omega)
theorem c_Union_tally (d : Nat) (hB : bkC I W len lt) {c : Nat} {u : Nat → Nat} (hc : c = 17 ∨ c = 21) (hu : ∀ w, w < W → I (c + 1) w = nI (u w)) : ∃ I', ev_do (d + 2) M_Union_tally [.ref 109, .ref c] (ev_mk h I L) = ev_rn (ev_mk h I' L) ∧ exc [112, 113] I I' ∧ ∀ l, l < 8 → I' 112 l = nI (sgn len lt u l true W) ∧ I' 113 l = nI (sgn len lt u l false W) := by
  obtain ⟨I1, e1, x1, f1⟩ := c_fill8 (h := h) (I := I) (L := L) d (k := 112) (x := 0) (by omega)
  obtain ⟨I2, e2, x2, f2⟩ := c_fill8 (h := h) (I := I1) (L := L) d (k := 113) (x := 0) (by omega)
  have x12 : exc [112, 113] I I2 := (x1.mono (by simp)).tr (x2.mono (by simp))
  have hW8 := hB.2.1
  have inner : ∀ m i w : Nat, w < W → i + m = len w → ∀ J, exc [112, 113] I J → (∀ l, l < 8 → J 112 l = nI (sgn len lt u l true w + fb_ct (isS (lt w) (u w) l true) i) ∧ J 113 l = nI (sgn len lt u l false w + fb_ct (isS (lt w) (u w) l false) i)) → ∃ J', ev_at (d + 1) M_Union_tally 31 [.ref 109, .ref c, .int (nI w), .int (nI i), .float 0, .float 0] [] (ev_mk h J L) = ev_at (d + 1) M_Union_tally 18 [.ref 109, .ref c, .int (nI (w + 1)), .float 0, .float 0, .float 0] [] (ev_mk h J' L) ∧ exc [112, 113] I J' ∧ ∀ l, l < 8 → J' 112 l = nI (sgn len lt u l true (w + 1)) ∧ J' 113 l = nI (sgn len lt u l false (w + 1)) := by
    intro m
    induction m with
    | zero =>
      intro i w hw hi J hJ hj
      obtain ⟨-, -, hBJ⟩ := hB.ex hJ (by intro a ha; simp; omega)
      obtain ⟨hl, hl8, hlt⟩ := hBJ w (by omega)
      refine ⟨J, ?_, hJ, ?_⟩
      · rw [e_Union_tally_31 _ _ _ hc, q_in (by omega), if_pos (by simp; omega), q_cl (by omega), hl, if_neg (fun z => absurd ((q_lt (by omega) (by omega)).mp z) (by omega)), show (1 : Int32) = nI 1 from rfl, q_add]
      · rw [show i = len w by omega] at hj
        exact hj
    | succ m ih =>
      intro i w hw hi J hJ hj
      obtain ⟨-, -, hBJ⟩ := hB.ex hJ (by intro a ha; simp; omega)
      obtain ⟨hl, hl8, hlt⟩ := hBJ w (by omega)
      obtain ⟨ht, ht8⟩ := hlt i (by omega)
      have hu' : J (c + 1) w = nI (u w) := by
        rw [hJ (c + 1) (by rcases hc with rfl | rfl <;> simp)]
        exact hu w hw
      rw [e_Union_tally_31 _ _ _ hc, q_in (by omega), if_pos (c := decide (w < 8) = true) (by simp; omega), q_cl (by omega), hl, if_pos ((q_lt (by omega) (by omega)).mpr (by omega)), if_pos (c := decide (w < 8) = true) (by simp; omega), x_row (by omega) (by omega), ht, if_pos (c := decide (w < 8) = true) (by simp; omega)]
      rw [show ev_in (nI (lt w i)) 8 = true by rw [q_in (by omega)]; simpa using ht8]
      rw [if_pos rfl, if_pos rfl, if_pos rfl, if_pos rfl, q_cl (a := lt w i) (by omega), hu', x_bit (by omega), show (1 : Int32) = nI 1 from rfl, q_add i 1]
      refine ih (i + 1) w hw (by omega) _ ((hJ.up (by simp)).up (by simp)) (fun l hl2 => ?_)
      obtain ⟨j1, j2⟩ := hj l hl2
      rw [fb_ct_succ, fb_ct_succ, ← Nat.add_assoc, ← Nat.add_assoc]
      by_cases e : l = lt w i
      · subst e
        rw [u_at, u_c (show (112 : Nat) ≠ 113 by decide), u_at, j1, j2]
        cases hb : (u w).testBit i with
        | true =>
          have k1 : isS (lt w) (u w) (lt w i) true i = true := by unfold isS; rw [hb]; simp
          have k2 : isS (lt w) (u w) (lt w i) false i = false := by unfold isS; rw [hb]; simp
          rw [k1, k2]
          refine ⟨?_, ?_⟩
          · show nI _ + nI 1 = nI _
            rw [q_add]; rfl
          · show nI _ + (nI 1 - nI 1) = nI _
            rw [q_sub (Nat.le_refl 1), q_add]; rfl
        | false =>
          have k1 : isS (lt w) (u w) (lt w i) true i = false := by unfold isS; rw [hb]; simp
          have k2 : isS (lt w) (u w) (lt w i) false i = true := by unfold isS; rw [hb]; simp
          rw [k1, k2]
          refine ⟨?_, ?_⟩
          · show nI _ + nI 0 = nI _
            rw [q_add]; rfl
          · show nI _ + (nI 1 - nI 0) = nI _
            rw [q_sub (by omega), q_add]; rfl
      · have k : ∀ b, isS (lt w) (u w) l b i = false := by
          intro b; unfold isS; rw [decide_eq_false (fun z => e z.symm)]; rfl
        rw [k, k, u_j e, u_j e, u_j e, u_j e, j1, j2]
        exact ⟨rfl, rfl⟩
  have outer : ∀ m w : Nat, w + m = W → ∀ J, exc [112, 113] I J → (∀ l, l < 8 → J 112 l = nI (sgn len lt u l true w) ∧ J 113 l = nI (sgn len lt u l false w)) → ∃ J', ev_at (d + 1) M_Union_tally 18 [.ref 109, .ref c, .int (nI w), .float 0, .float 0, .float 0] [] (ev_mk h J L) = ev_rn (ev_mk h J' L) ∧ exc [112, 113] I J' ∧ ∀ l, l < 8 → J' 112 l = nI (sgn len lt u l true W) ∧ J' 113 l = nI (sgn len lt u l false W) := by
    intro m
    induction m with
    | zero =>
      intro w hw J hJ hj
      obtain ⟨hW, -, -⟩ := hB.ex hJ (by intro a ha; simp; omega)
      have : w = W := by omega
      subst this
      refine ⟨J, ?_, hJ, hj⟩
      rw [e_Union_tally_18 _ _ hc, hW, if_neg (fun z => absurd ((q_lt (by omega) (by omega)).mp z) (by omega))]
    | succ m ih =>
      intro w hw J hJ hj
      obtain ⟨hW, -, -⟩ := hB.ex hJ (by intro a ha; simp; omega)
      rw [e_Union_tally_18 _ _ hc, hW, if_pos ((q_lt (by omega) (by omega)).mpr (by omega))]
      obtain ⟨J', j1, j2, j3⟩ := inner (len w) 0 w (by omega) (by omega) J hJ hj
      rw [show (.int 0 : Value) = .int (nI 0) from rfl, j1]
      exact ih (w + 1) (by omega) J' j2 j3
  rw [e_Union_tally_0 _ hc, e1, k_V, k_1, k_2, k_3, e2, k_V, k_1, k_2, k_3]
  exact outer W 0 (by omega) I2 x12 (fun l hl => ⟨by rw [x2 112 (by simp)]; exact f1 l hl, f2 l hl⟩)
end TA
